theorem gr_X0_11_0 : rb_FR RX0 11 0 0 := ⟨RX0, TX0, 3, "RibbonPole$Acts", rfl, rb_uX0, by decide, rb_in (by decide +kernel) (by decide +kernel), Or.inl rfl⟩
theorem nw_X0_9 : rb_NW RX0 9 7 [.int 0, .int 0, .int 0, .int 0, .null, .null, .null, .null] := ⟨RX7, TX7, 8, tyX7, rfl, rb_uX7, tyX7_ok, rb_in (by decide +kernel) (by decide +kernel), rb_in (by decide +kernel) (by decide +kernel), rb_in (by decide +kernel) (by decide +kernel), by decide +kernel, rfl⟩
theorem mi_X0_17 : rb_MIN RX0 17 yX7_init cX7_init 1 0 := ⟨by decide +kernel, rb_in (by decide +kernel) (by decide +kernel), rb_in (by decide +kernel) (by decide +kernel), rb_in (by decide +kernel) (by decide +kernel), rfl, by decide +kernel, by decide +kernel, by decide +kernel⟩
theorem gr_X11_65_10 : rb_FR RX11 65 10 8 := ⟨RX11, TX11, 20, "RibbonPole", rfl, rb_uX11, by decide, rb_in (by decide +kernel) (by decide +kernel), Or.inl rfl⟩
theorem nw_X11_63 : rb_NW RX11 63 5 [.null, .int 0, .null, .null, .int 0] := ⟨RX5, TX5, 5, tyX5, rfl, rb_uX5, tyX5_ok, rb_in (by decide +kernel) (by decide +kernel), rb_in (by decide +kernel) (by decide +kernel), rb_in (by decide +kernel) (by decide +kernel), by decide +kernel, rfl⟩
theorem mi_X11_100 : rb_MIN RX11 100 yX5_init cX5_init 1 0 := ⟨by decide +kernel, rb_in (by decide +kernel) (by decide +kernel), rb_in (by decide +kernel) (by decide +kernel), rb_in (by decide +kernel) (by decide +kernel), rfl, by decide +kernel, by decide +kernel, by decide +kernel⟩
theorem gr_X11_75_10 : rb_FR RX11 75 10 11 := ⟨RX11, TX11, 20, "RibbonPole", rfl, rb_uX11, by decide, rb_in (by decide +kernel) (by decide +kernel), Or.inl rfl⟩
theorem nw_X11_73 : rb_NW RX11 73 1 [.null, .int 0] := ⟨RX1, TX1, 2, tyX1, rfl, rb_uX1, tyX1_ok, rb_in (by decide +kernel) (by decide +kernel), rb_in (by decide +kernel) (by decide +kernel), rb_in (by decide +kernel) (by decide +kernel), by decide +kernel, rfl⟩
theorem mi_X11_101 : rb_MIN RX11 101 yX1_init cX1_init 1 0 := ⟨by decide +kernel, rb_in (by decide +kernel) (by decide +kernel), rb_in (by decide +kernel) (by decide +kernel), rb_in (by decide +kernel) (by decide +kernel), rfl, by decide +kernel, by decide +kernel, by decide +kernel⟩
theorem gr_X11_86_10 : rb_FR RX11 86 10 16 := ⟨RX11, TX11, 20, "RibbonPole", rfl, rb_uX11, by decide, rb_in (by decide +kernel) (by decide +kernel), Or.inl rfl⟩
theorem nw_X11_46 : rb_NW RX11 46 7 [.int 0, .int 0, .int 0, .int 0, .null, .null, .null, .null] := ⟨RX7, TX7, 8, tyX7, rfl, rb_uX7, tyX7_ok, rb_in (by decide +kernel) (by decide +kernel), rb_in (by decide +kernel) (by decide +kernel), rb_in (by decide +kernel) (by decide +kernel), by decide +kernel, rfl⟩
theorem mi_X11_48 : rb_MIN RX11 48 yX7_init cX7_init 1 0 := ⟨by decide +kernel, rb_in (by decide +kernel) (by decide +kernel), rb_in (by decide +kernel) (by decide +kernel), rb_in (by decide +kernel) (by decide +kernel), rfl, by decide +kernel, by decide +kernel, by decide +kernel⟩
def it_ahead (cy : Nat → ClassId) (b : Nat → Nat) : va_W := po_X7_init (b 0) cy [b 1, b 2, b 3, b 4]
theorem it_ahead_c {cy : Nat → ClassId} : ∀ b c : Nat → Nat, (∀ u, u < 5 → b u = c u) → it_ahead cy b = it_ahead cy c := by
  intro b c h
  unfold it_ahead
  rw [h 0 (by decide), h 1 (by decide), h 2 (by decide), h 3 (by decide), h 4 (by decide)]
set_option maxHeartbeats 4000000 in
set_option maxRecDepth 100000 in
theorem xL_ahead {z : rb_Z} {D : va_G} {cy : Nat → ClassId} {A : Nat → Prop} {Q : State → Prop} {h C S : Nat} (hC : rb_Bx z D cy A RX0 cX0_init 2 h C S) (hAO : rb_AOs (rb_s z)) (hh : 1 < h) {h0 qa j cs0 sl0 : Nat} {fs : List Value} (hf : fs[0]? = some (.ref qa)) {X : (Nat → Option Nat) → va_W} (hX : rb_FX X j qa (cy 2) 40 h0 0 fs) (hcs : cs0 + 5 * 40 ≤ C) (hsl : sl0 + 132 * 40 ≤ S)
    (hE : ∀ a : Nat → Nat, rb_Bt z D A (cs0 + 5 * 40) (sl0 + 132 * 40) 2 Q 40 [(0, .ref h0), (1, .int (nI 40))] [] (X (rb_fi 5 a 40) ++ rb_its (it_ahead cy) 5 a 40)) :
    ∀ (n i : Nat) (a : Nat → Nat), i ≤ 40 → 40 < i + n → rb_Bt z D A (cs0 + 5 * i) (sl0 + 132 * i) 2 Q 15 [(0, .ref h0), (1, .int (nI i))] [] (X (rb_fi 5 a i) ++ rb_its (it_ahead cy) 5 a i) := by
  intro n
  induction n with
  | zero => intro i a h1 h2; exact absurd h2 (by omega)
  | succ n ih =>
    intro i a h1 h2
    obtain ⟨x0, xj, xs⟩ := hX.get (rb_fi 5 a i) (rb_its (it_ahead cy) 5 a i)
    refine rb_g_iload_n hC 1 dX0_init_15 rfl ?_
    refine rb_g_bipush (x := 40) hC dX0_init_16 (by decide) ?_
    refine rb_g_icmp_ge hC 40 dX0_init_18 (by decide) (fun c1 => ?_) (fun c1 => ?_)
    · have hi : i = 40 := by
        rcases Nat.lt_or_ge i 40 with q | q
        · exact absurd c1 (nI_ge (b := 40) q (by decide))
        · omega
      subst hi
      exact hE a
    · have hi : i < 40 := by
        rcases Nat.lt_or_ge i 40 with q | q
        · exact q
        · exact absurd (nI_le (a := 40) q (by omega)) c1
      refine rb_g_aload_n hC 0 dX0_init_21 rfl ?_
      refine rb_g_get hC 0 gr_X0_11_0 x0 hf dX0_init_22 ?_
      refine rb_g_iload_n hC 1 dX0_init_25 rfl ?_
      refine rb_g_new hC nw_X0_9 (by have : 5 * (i + 1) ≤ 5 * 40 := Nat.mul_le_mul_left _ hi; rw [Nat.mul_add] at this; omega) (by have : 132 * (i + 1) ≤ 132 * 40 := Nat.mul_le_mul_left _ hi; rw [Nat.mul_add] at this; show sl0 + 132 * i + 8 ≤ S; omega) dX0_init_26 (fun q => ?_)
      refine rb_g_dup hC dX0_init_29 rfl ?_
      refine rb_g_callN hC hAO mi_X0_17 (xi_X7_init q) rfl (As := []) rfl ⟨by omega, by decide⟩ (by have : 5 * (i + 1) ≤ 5 * 40 := Nat.mul_le_mul_left _ hi; rw [Nat.mul_add] at this; omega) (by have : 132 * (i + 1) ≤ 132 * 40 := Nat.mul_le_mul_left _ hi; rw [Nat.mul_add] at this; show sl0 + 132 * i + 8 + 124 ≤ S; omega) (Nat.le_of_ble_eq_true rfl) dX0_init_30 (fun ns hns => ?_)
      obtain ⟨a1, a2, a3, a4, rfl⟩ := rb_ls4 hns
      have hin : vp_in (nI i) 40 := vp_in_nI hi (by decide)
      have hcl : (nI i).toNatClampNeg = i := nI_clamp (by omega)
      obtain ⟨y0, yj, ys⟩ := hX.get (rb_fi 5 a i) (rb_its (it_ahead cy) 5 a i ++ po_X7_init q cy [a1, a2, a3, a4])
      rw [← List.append_assoc] at y0 yj ys
      refine rb_g_aast hC j (X (rb_fi 5 a i) ++ rb_its (it_ahead cy) 5 a i).length yj rfl (ci := 7) (r := (RX7, TX7, 8)) (by rw [List.getElem?_append_right (Nat.le_refl _), Nat.sub_self]; rfl) rfl hin dX0_init_33 ?_
      rw [hcl]
      refine rb_g_iinc hC 1 [(1, .int (nI (i + 1))), (0, .ref h0)] dX0_init_34 rfl (nI_1 i) (by decide) rfl ?_
      refine rb_g_goto hC 15 dX0_init_37 (by decide) ?_
      refine rb_g_sub (lv2 := [(0, .ref h0), (1, .int (nI (i + 1)))]) [1, 0] rfl ?_
      refine rb_g_ws (ws2 := X (rb_fi 5 (rb_ext 5 a i q [a1, a2, a3, a4]) (i + 1)) ++ rb_its (it_ahead cy) 5 (rb_ext 5 a i q [a1, a2, a3, a4]) (i + 1)) ?_ ?_
      · rw [rb_its_ext it_ahead_c, ys, rb_fi_ext (ns := [a1, a2, a3, a4]) (by decide)]
        rfl
      · exact rb_g_w (by omega) (by simp only [List.length_cons, List.length_nil]; omega) (ih (i + 1) (rb_ext 5 a i q [a1, a2, a3, a4]) hi (by omega))
def it_laws (cy : Nat → ClassId) (b : Nat → Nat) : va_W := po_X5_init (b 0) cy [b 1, b 2, b 3]
theorem it_laws_c {cy : Nat → ClassId} : ∀ b c : Nat → Nat, (∀ u, u < 4 → b u = c u) → it_laws cy b = it_laws cy c := by
  intro b c h
  unfold it_laws
  rw [h 0 (by decide), h 1 (by decide), h 2 (by decide), h 3 (by decide)]
set_option maxHeartbeats 4000000 in
set_option maxRecDepth 100000 in
theorem xL_laws {z : rb_Z} {D : va_G} {cy : Nat → ClassId} {A : Nat → Prop} {Q : State → Prop} {h C S : Nat} (hC : rb_Bx z D cy A RX11 cX11_init 2 h C S) (hAO : rb_AOs (rb_s z)) (hh : 1 < h) {h0 qa j cs0 sl0 : Nat} {fs : List Value} (hf : fs[8]? = some (.ref qa)) {X : (Nat → Option Nat) → va_W} (hX : rb_FX X j qa (cy 3) 4 h0 10 fs) (hcs : cs0 + 4 * 4 ≤ C) (hsl : sl0 + 317 * 4 ≤ S)
    (hE : ∀ a : Nat → Nat, rb_Bt z D A (cs0 + 4 * 4) (sl0 + 317 * 4) 2 Q 195 [(0, .ref h0), (1, .int (nI 4))] [] (X (rb_fi 4 a 4) ++ rb_its (it_laws cy) 4 a 4)) :
    ∀ (n i : Nat) (a : Nat → Nat), i ≤ 4 → 4 < i + n → rb_Bt z D A (cs0 + 4 * i) (sl0 + 317 * i) 2 Q 171 [(0, .ref h0), (1, .int (nI i))] [] (X (rb_fi 4 a i) ++ rb_its (it_laws cy) 4 a i) := by
  intro n
  induction n with
  | zero => intro i a h1 h2; exact absurd h2 (by omega)
  | succ n ih =>
    intro i a h1 h2
    obtain ⟨x0, xj, xs⟩ := hX.get (rb_fi 4 a i) (rb_its (it_laws cy) 4 a i)
    refine rb_g_iload_n hC 1 dX11_init_171 rfl ?_
    refine rb_g_iconst (x := 4) hC dX11_init_172 (by decide) ?_
    refine rb_g_icmp_ge hC 195 dX11_init_173 (by decide) (fun c1 => ?_) (fun c1 => ?_)
    · have hi : i = 4 := by
        rcases Nat.lt_or_ge i 4 with q | q
        · exact absurd c1 (nI_ge (b := 4) q (by decide))
        · omega
      subst hi
      exact hE a
    · have hi : i < 4 := by
        rcases Nat.lt_or_ge i 4 with q | q
        · exact q
        · exact absurd (nI_le (a := 4) q (by omega)) c1
      refine rb_g_aload_n hC 0 dX11_init_176 rfl ?_
      refine rb_g_get hC 0 gr_X11_65_10 x0 hf dX11_init_177 ?_
      refine rb_g_iload_n hC 1 dX11_init_180 rfl ?_
      refine rb_g_new hC nw_X11_63 (by have : 4 * (i + 1) ≤ 4 * 4 := Nat.mul_le_mul_left _ hi; rw [Nat.mul_add] at this; omega) (by have : 317 * (i + 1) ≤ 317 * 4 := Nat.mul_le_mul_left _ hi; rw [Nat.mul_add] at this; show sl0 + 317 * i + 5 ≤ S; omega) dX11_init_181 (fun q => ?_)
      refine rb_g_dup hC dX11_init_184 rfl ?_
      refine rb_g_callN hC hAO mi_X11_100 (xi_X5_init q) rfl (As := []) rfl ⟨by omega, by decide⟩ (by have : 4 * (i + 1) ≤ 4 * 4 := Nat.mul_le_mul_left _ hi; rw [Nat.mul_add] at this; omega) (by have : 317 * (i + 1) ≤ 317 * 4 := Nat.mul_le_mul_left _ hi; rw [Nat.mul_add] at this; show sl0 + 317 * i + 5 + 312 ≤ S; omega) (Nat.le_of_ble_eq_true rfl) dX11_init_185 (fun ns hns => ?_)
      obtain ⟨a1, a2, a3, rfl⟩ := rb_ls3 hns
      have hin : vp_in (nI i) 4 := vp_in_nI hi (by decide)
      have hcl : (nI i).toNatClampNeg = i := nI_clamp (by omega)
      obtain ⟨y0, yj, ys⟩ := hX.get (rb_fi 4 a i) (rb_its (it_laws cy) 4 a i ++ po_X5_init q cy [a1, a2, a3])
      rw [← List.append_assoc] at y0 yj ys
      refine rb_g_aast hC j (X (rb_fi 4 a i) ++ rb_its (it_laws cy) 4 a i).length yj rfl (ci := 5) (r := (RX5, TX5, 5)) (by rw [List.getElem?_append_right (Nat.le_refl _), Nat.sub_self]; rfl) rfl hin dX11_init_188 ?_
      rw [hcl]
      refine rb_g_iinc hC 1 [(1, .int (nI (i + 1))), (0, .ref h0)] dX11_init_189 rfl (nI_1 i) (by decide) rfl ?_
      refine rb_g_goto hC 171 dX11_init_192 (by decide) ?_
      refine rb_g_sub (lv2 := [(0, .ref h0), (1, .int (nI (i + 1)))]) [1, 0] rfl ?_
      refine rb_g_ws (ws2 := X (rb_fi 4 (rb_ext 4 a i q [a1, a2, a3]) (i + 1)) ++ rb_its (it_laws cy) 4 (rb_ext 4 a i q [a1, a2, a3]) (i + 1)) ?_ ?_
      · rw [rb_its_ext it_laws_c, ys, rb_fi_ext (ns := [a1, a2, a3]) (by decide)]
        rfl
      · exact rb_g_w (by omega) (by simp only [List.length_cons, List.length_nil]; omega) (ih (i + 1) (rb_ext 4 a i q [a1, a2, a3]) hi (by omega))
def it_figs (cy : Nat → ClassId) (b : Nat → Nat) : va_W := po_X1_init (b 0) cy [b 1]
theorem it_figs_c {cy : Nat → ClassId} : ∀ b c : Nat → Nat, (∀ u, u < 2 → b u = c u) → it_figs cy b = it_figs cy c := by
  intro b c h
  unfold it_figs
  rw [h 0 (by decide), h 1 (by decide)]
set_option maxHeartbeats 4000000 in
set_option maxRecDepth 100000 in
theorem xL_figs {z : rb_Z} {D : va_G} {cy : Nat → ClassId} {A : Nat → Prop} {Q : State → Prop} {h C S : Nat} (hC : rb_Bx z D cy A RX11 cX11_init 2 h C S) (hAO : rb_AOs (rb_s z)) (hh : 1 < h) {h0 qa j cs0 sl0 : Nat} {fs : List Value} (hf : fs[11]? = some (.ref qa)) {X : (Nat → Option Nat) → va_W} (hX : rb_FX X j qa (cy 4) 6 h0 10 fs) (hcs : cs0 + 2 * 6 ≤ C) (hsl : sl0 + 50 * 6 ≤ S)
    (hE : ∀ a : Nat → Nat, rb_Bt z D A (cs0 + 2 * 6) (sl0 + 50 * 6) 2 Q 222 [(0, .ref h0), (1, .int (nI 6))] [] (X (rb_fi 2 a 6) ++ rb_its (it_figs cy) 2 a 6)) :
    ∀ (n i : Nat) (a : Nat → Nat), i ≤ 6 → 6 < i + n → rb_Bt z D A (cs0 + 2 * i) (sl0 + 50 * i) 2 Q 197 [(0, .ref h0), (1, .int (nI i))] [] (X (rb_fi 2 a i) ++ rb_its (it_figs cy) 2 a i) := by
  intro n
  induction n with
  | zero => intro i a h1 h2; exact absurd h2 (by omega)
  | succ n ih =>
    intro i a h1 h2
    obtain ⟨x0, xj, xs⟩ := hX.get (rb_fi 2 a i) (rb_its (it_figs cy) 2 a i)
    refine rb_g_iload_n hC 1 dX11_init_197 rfl ?_
    refine rb_g_bipush (x := 6) hC dX11_init_198 (by decide) ?_
    refine rb_g_icmp_ge hC 222 dX11_init_200 (by decide) (fun c1 => ?_) (fun c1 => ?_)
    · have hi : i = 6 := by
        rcases Nat.lt_or_ge i 6 with q | q
        · exact absurd c1 (nI_ge (b := 6) q (by decide))
        · omega
      subst hi
      exact hE a
    · have hi : i < 6 := by
        rcases Nat.lt_or_ge i 6 with q | q
        · exact q
        · exact absurd (nI_le (a := 6) q (by omega)) c1
      refine rb_g_aload_n hC 0 dX11_init_203 rfl ?_
      refine rb_g_get hC 0 gr_X11_75_10 x0 hf dX11_init_204 ?_
      refine rb_g_iload_n hC 1 dX11_init_207 rfl ?_
      refine rb_g_new hC nw_X11_73 (by have : 2 * (i + 1) ≤ 2 * 6 := Nat.mul_le_mul_left _ hi; rw [Nat.mul_add] at this; omega) (by have : 50 * (i + 1) ≤ 50 * 6 := Nat.mul_le_mul_left _ hi; rw [Nat.mul_add] at this; show sl0 + 50 * i + 2 ≤ S; omega) dX11_init_208 (fun q => ?_)
      refine rb_g_dup hC dX11_init_211 rfl ?_
      refine rb_g_callN hC hAO mi_X11_101 (xi_X1_init q) rfl (As := []) rfl ⟨by omega, by decide⟩ (by have : 2 * (i + 1) ≤ 2 * 6 := Nat.mul_le_mul_left _ hi; rw [Nat.mul_add] at this; omega) (by have : 50 * (i + 1) ≤ 50 * 6 := Nat.mul_le_mul_left _ hi; rw [Nat.mul_add] at this; show sl0 + 50 * i + 2 + 48 ≤ S; omega) (Nat.le_of_ble_eq_true rfl) dX11_init_212 (fun ns hns => ?_)
      obtain ⟨a1, rfl⟩ := rb_ls1 hns
      have hin : vp_in (nI i) 6 := vp_in_nI hi (by decide)
      have hcl : (nI i).toNatClampNeg = i := nI_clamp (by omega)
      obtain ⟨y0, yj, ys⟩ := hX.get (rb_fi 2 a i) (rb_its (it_figs cy) 2 a i ++ po_X1_init q cy [a1])
      rw [← List.append_assoc] at y0 yj ys
      refine rb_g_aast hC j (X (rb_fi 2 a i) ++ rb_its (it_figs cy) 2 a i).length yj rfl (ci := 1) (r := (RX1, TX1, 2)) (by rw [List.getElem?_append_right (Nat.le_refl _), Nat.sub_self]; rfl) rfl hin dX11_init_215 ?_
      rw [hcl]
      refine rb_g_iinc hC 1 [(1, .int (nI (i + 1))), (0, .ref h0)] dX11_init_216 rfl (nI_1 i) (by decide) rfl ?_
      refine rb_g_goto hC 197 dX11_init_219 (by decide) ?_
      refine rb_g_sub (lv2 := [(0, .ref h0), (1, .int (nI (i + 1)))]) [1, 0] rfl ?_
      refine rb_g_ws (ws2 := X (rb_fi 2 (rb_ext 2 a i q [a1]) (i + 1)) ++ rb_its (it_figs cy) 2 (rb_ext 2 a i q [a1]) (i + 1)) ?_ ?_
      · rw [rb_its_ext it_figs_c, ys, rb_fi_ext (ns := [a1]) (by decide)]
        rfl
      · exact rb_g_w (by omega) (by simp only [List.length_cons, List.length_nil]; omega) (ih (i + 1) (rb_ext 2 a i q [a1]) hi (by omega))
def it_apart (cy : Nat → ClassId) (b : Nat → Nat) : va_W := po_X7_init (b 0) cy [b 1, b 2, b 3, b 4]
theorem it_apart_c {cy : Nat → ClassId} : ∀ b c : Nat → Nat, (∀ u, u < 5 → b u = c u) → it_apart cy b = it_apart cy c := by
  intro b c h
  unfold it_apart
  rw [h 0 (by decide), h 1 (by decide), h 2 (by decide), h 3 (by decide), h 4 (by decide)]
set_option maxHeartbeats 4000000 in
set_option maxRecDepth 100000 in
theorem xL_apart {z : rb_Z} {D : va_G} {cy : Nat → ClassId} {A : Nat → Prop} {Q : State → Prop} {h C S : Nat} (hC : rb_Bx z D cy A RX11 cX11_init 2 h C S) (hAO : rb_AOs (rb_s z)) (hh : 1 < h) {h0 qa j cs0 sl0 : Nat} {fs : List Value} (hf : fs[16]? = some (.ref qa)) {X : (Nat → Option Nat) → va_W} (hX : rb_FX X j qa (cy 2) 9 h0 10 fs) (hcs : cs0 + 5 * 9 ≤ C) (hsl : sl0 + 132 * 9 ≤ S)
    (hE : ∀ a : Nat → Nat, rb_Bt z D A (cs0 + 5 * 9) (sl0 + 132 * 9) 2 Q 249 [(0, .ref h0), (1, .int (nI 9))] [] (X (rb_fi 5 a 9) ++ rb_its (it_apart cy) 5 a 9)) :
    ∀ (n i : Nat) (a : Nat → Nat), i ≤ 9 → 9 < i + n → rb_Bt z D A (cs0 + 5 * i) (sl0 + 132 * i) 2 Q 224 [(0, .ref h0), (1, .int (nI i))] [] (X (rb_fi 5 a i) ++ rb_its (it_apart cy) 5 a i) := by
  intro n
  induction n with
  | zero => intro i a h1 h2; exact absurd h2 (by omega)
  | succ n ih =>
    intro i a h1 h2
    obtain ⟨x0, xj, xs⟩ := hX.get (rb_fi 5 a i) (rb_its (it_apart cy) 5 a i)
    refine rb_g_iload_n hC 1 dX11_init_224 rfl ?_
    refine rb_g_bipush (x := 8) hC dX11_init_225 (by decide) ?_
    refine rb_g_icmp_gt hC 249 dX11_init_227 (by decide) (fun c1 => ?_) (fun c1 => ?_)
    · have hi : i = 9 := by
        rcases Nat.lt_or_ge i 9 with q | q
        · exact absurd c1 (nI_nlt (a := 8) (by omega) (by omega))
        · omega
      subst hi
      exact hE a
    · have hi : i < 9 := by
        rcases Nat.lt_or_ge i 9 with q | q
        · exact q
        · exact absurd (nI_lt (a := 8) (by omega) (by omega)) c1
      refine rb_g_aload_n hC 0 dX11_init_230 rfl ?_
      refine rb_g_get hC 0 gr_X11_86_10 x0 hf dX11_init_231 ?_
      refine rb_g_iload_n hC 1 dX11_init_234 rfl ?_
      refine rb_g_new hC nw_X11_46 (by have : 5 * (i + 1) ≤ 5 * 9 := Nat.mul_le_mul_left _ hi; rw [Nat.mul_add] at this; omega) (by have : 132 * (i + 1) ≤ 132 * 9 := Nat.mul_le_mul_left _ hi; rw [Nat.mul_add] at this; show sl0 + 132 * i + 8 ≤ S; omega) dX11_init_235 (fun q => ?_)
      refine rb_g_dup hC dX11_init_238 rfl ?_
      refine rb_g_callN hC hAO mi_X11_48 (xi_X7_init q) rfl (As := []) rfl ⟨by omega, by decide⟩ (by have : 5 * (i + 1) ≤ 5 * 9 := Nat.mul_le_mul_left _ hi; rw [Nat.mul_add] at this; omega) (by have : 132 * (i + 1) ≤ 132 * 9 := Nat.mul_le_mul_left _ hi; rw [Nat.mul_add] at this; show sl0 + 132 * i + 8 + 124 ≤ S; omega) (Nat.le_of_ble_eq_true rfl) dX11_init_239 (fun ns hns => ?_)
      obtain ⟨a1, a2, a3, a4, rfl⟩ := rb_ls4 hns
      have hin : vp_in (nI i) 9 := vp_in_nI hi (by decide)
      have hcl : (nI i).toNatClampNeg = i := nI_clamp (by omega)
      obtain ⟨y0, yj, ys⟩ := hX.get (rb_fi 5 a i) (rb_its (it_apart cy) 5 a i ++ po_X7_init q cy [a1, a2, a3, a4])
      rw [← List.append_assoc] at y0 yj ys
      refine rb_g_aast hC j (X (rb_fi 5 a i) ++ rb_its (it_apart cy) 5 a i).length yj rfl (ci := 7) (r := (RX7, TX7, 8)) (by rw [List.getElem?_append_right (Nat.le_refl _), Nat.sub_self]; rfl) rfl hin dX11_init_242 ?_
      rw [hcl]
      refine rb_g_iinc hC 1 [(1, .int (nI (i + 1))), (0, .ref h0)] dX11_init_243 rfl (nI_1 i) (by decide) rfl ?_
      refine rb_g_goto hC 224 dX11_init_246 (by decide) ?_
      refine rb_g_sub (lv2 := [(0, .ref h0), (1, .int (nI (i + 1)))]) [1, 0] rfl ?_
      refine rb_g_ws (ws2 := X (rb_fi 5 (rb_ext 5 a i q [a1, a2, a3, a4]) (i + 1)) ++ rb_its (it_apart cy) 5 (rb_ext 5 a i q [a1, a2, a3, a4]) (i + 1)) ?_ ?_
      · rw [rb_its_ext it_apart_c, ys, rb_fi_ext (ns := [a1, a2, a3, a4]) (by decide)]
        rfl
      · exact rb_g_w (by omega) (by simp only [List.length_cons, List.length_nil]; omega) (ih (i + 1) (rb_ext 5 a i q [a1, a2, a3, a4]) hi (by omega))
