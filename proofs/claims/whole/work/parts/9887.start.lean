/-! THE LAW'S START: classes, array classes, constants -/
theorem rb_evI {args : Array Value} {s : State} {t : Term} {k : Int32} (h : (Cond.eq t (.int k)).before args s = true) : t.eval args s none [] s = some (.int k) := by
  obtain ⟨y, h1, h2⟩ := Cond.eq_one (show (Cond.eq t (.int k)).holds args s none s [] = true from h)
  have h3 : (Term.int k).eval args s none [] s = some (.int k) := rfl
  rw [h3] at h2
  rw [h1, ← h2]
theorem st_i0 : Cond.instantiable RX0 3 ∈ rb_tbl := rb_in (by decide +kernel) (by decide +kernel)
theorem st_i1 : Cond.instantiable RX1 2 ∈ rb_tbl := rb_in (by decide +kernel) (by decide +kernel)
theorem st_i2 : Cond.instantiable RX2 3 ∈ rb_tbl := rb_in (by decide +kernel) (by decide +kernel)
theorem st_i3 : Cond.instantiable RX3 3 ∈ rb_tbl := rb_in (by decide +kernel) (by decide +kernel)
theorem st_i4 : Cond.instantiable RX4 4 ∈ rb_tbl := rb_in (by decide +kernel) (by decide +kernel)
theorem st_i5 : Cond.instantiable RX5 5 ∈ rb_tbl := rb_in (by decide +kernel) (by decide +kernel)
theorem st_i6 : Cond.instantiable RX6 3 ∈ rb_tbl := rb_in (by decide +kernel) (by decide +kernel)
theorem st_i7 : Cond.instantiable RX7 8 ∈ rb_tbl := rb_in (by decide +kernel) (by decide +kernel)
theorem st_i9 : Cond.instantiable RX9 2 ∈ rb_tbl := rb_in (by decide +kernel) (by decide +kernel)
theorem st_i10 : Cond.instantiable RX10 4 ∈ rb_tbl := rb_in (by decide +kernel) (by decide +kernel)
theorem st_i11 : Cond.instantiable RX11 20 ∈ rb_tbl := rb_in (by decide +kernel) (by decide +kernel)
theorem st_i12 : Cond.instantiable RX12 50 ∈ rb_tbl := rb_in (by decide +kernel) (by decide +kernel)
theorem st_kn {args : Array Value} {s : State} (hts : ∀ x ∈ rb_tbl, x.before args s = true) : ∃ D : va_G, ∀ (c : Nat) (q : vw_C), vwCl[c]? = some q → u_Kn s q.1 q.2.1 q.2.2 (D.1 c) (D.2 c) := by
  have ex : ∀ c : Nat, ∃ d : ClassId × (Nat → Nat), ∀ q : vw_C, vwCl[c]? = some q → u_Kn s q.1 q.2.1 q.2.2 d.1 d.2 := by
    intro c
    match c with
    | 0 =>
      obtain ⟨cC, iS, h⟩ := u_known (C := RX0) (T := TX0) (N := 3) (n := 3) hts rb_uX0 (hts _ st_i0)
      exact ⟨(cC, iS), fun q hq => by cases hq; exact h⟩
    | 1 =>
      obtain ⟨cC, iS, h⟩ := u_known (C := RX1) (T := TX1) (N := 2) (n := 2) hts rb_uX1 (hts _ st_i1)
      exact ⟨(cC, iS), fun q hq => by cases hq; exact h⟩
    | 2 =>
      obtain ⟨cC, iS, h⟩ := u_known (C := RX2) (T := TX2) (N := 3) (n := 3) hts rb_uX2 (hts _ st_i2)
      exact ⟨(cC, iS), fun q hq => by cases hq; exact h⟩
    | 3 =>
      obtain ⟨cC, iS, h⟩ := u_known (C := RX3) (T := TX3) (N := 3) (n := 3) hts rb_uX3 (hts _ st_i3)
      exact ⟨(cC, iS), fun q hq => by cases hq; exact h⟩
    | 4 =>
      obtain ⟨cC, iS, h⟩ := u_known (C := RX4) (T := TX4) (N := 4) (n := 4) hts rb_uX4 (hts _ st_i4)
      exact ⟨(cC, iS), fun q hq => by cases hq; exact h⟩
    | 5 =>
      obtain ⟨cC, iS, h⟩ := u_known (C := RX5) (T := TX5) (N := 5) (n := 5) hts rb_uX5 (hts _ st_i5)
      exact ⟨(cC, iS), fun q hq => by cases hq; exact h⟩
    | 6 =>
      obtain ⟨cC, iS, h⟩ := u_known (C := RX6) (T := TX6) (N := 3) (n := 3) hts rb_uX6 (hts _ st_i6)
      exact ⟨(cC, iS), fun q hq => by cases hq; exact h⟩
    | 7 =>
      obtain ⟨cC, iS, h⟩ := u_known (C := RX7) (T := TX7) (N := 8) (n := 8) hts rb_uX7 (hts _ st_i7)
      exact ⟨(cC, iS), fun q hq => by cases hq; exact h⟩
    | 8 =>
      obtain ⟨cC, iS, h⟩ := u_known (C := RX9) (T := TX9) (N := 2) (n := 2) hts rb_uX9 (hts _ st_i9)
      exact ⟨(cC, iS), fun q hq => by cases hq; exact h⟩
    | 9 =>
      obtain ⟨cC, iS, h⟩ := u_known (C := RX10) (T := TX10) (N := 4) (n := 4) hts rb_uX10 (hts _ st_i10)
      exact ⟨(cC, iS), fun q hq => by cases hq; exact h⟩
    | 10 =>
      obtain ⟨cC, iS, h⟩ := u_known (C := RX11) (T := TX11) (N := 20) (n := 20) hts rb_uX11 (hts _ st_i11)
      exact ⟨(cC, iS), fun q hq => by cases hq; exact h⟩
    | 11 =>
      obtain ⟨cC, iS, h⟩ := u_known (C := RX12) (T := TX12) (N := 50) (n := 50) hts rb_uX12 (hts _ st_i12)
      exact ⟨(cC, iS), fun q hq => by cases hq; exact h⟩
    | k + 12 => exact ⟨(0, fun _ => 0), fun q hq => by simp [vwCl] at hq⟩
  obtain ⟨f, hf⟩ := Classical.axiomOfChoice ex
  exact ⟨(fun c => (f c).1, fun c => (f c).2), fun c q hq => hf c q hq⟩
theorem st_arrP {args : Array Value} {s : State} {ty : FieldType} (h : (Cond.arrayClass ty).before args s = true) : ∃ c : ClassId, ArrOfT s c ty ∧ s.vm.findClass ("[" ++ ty.toString) = some c := by
  obtain ⟨c, k, comp, h1, h2, h3⟩ := Cond.arrayClass_spec h
  exact ⟨c, fun n z => ⟨fun k h => (by cases h), k, h2, comp, h3⟩, h1⟩
theorem st_arrO {s : State} {C : String} (h : va_AO C s) : ∃ c : ClassId, ArrOfT s c (.object C) ∧ va_RA s c (.object C) := by
  obtain ⟨comp, c, k, h1, h2, h3, h4, h5⟩ := Cond.arrayOver_spec h
  exact ⟨c, fun n z => ⟨fun k h => (by cases h), k, h3, comp, h4⟩, k, comp, h3, h4, h1, h5⟩
theorem st_ao1 : Cond.arrayOver (.object "RibbonPole$Pole") ∈ lw_tbl := by decide +kernel
theorem st_ao2 : Cond.arrayOver (.object "RibbonPole$Law") ∈ lw_tbl := by decide +kernel
theorem st_ao3 : Cond.arrayOver (.object "RibbonPole$Figure") ∈ lw_tbl := by decide +kernel
theorem st_nwI : ∀ x ∈ rb_nwI, x ∈ lw_tbl ∧ x.onTables = true := by decide +kernel
theorem st_nw : ∀ x ∈ rb_nw, x ∈ lw_tbl ∧ x.onTables = true := by decide +kernel
theorem st_AOs {args : Array Value} {s : State} (hlw : ∀ x ∈ lw_tbl, x.before args s = true) : rb_AOs s := ⟨va_AO.of (hlw _ st_ao1), va_AO.of (hlw _ st_ao2), va_AO.of (hlw _ st_ao3), fun x hx => va_Nw.of (st_nwI x hx).2 (hlw x (st_nwI x hx).1)⟩
theorem st_K {args : Array Value} {s : State} (hts : ∀ x ∈ rb_tbl, x.before args s = true) (hAO : rb_AOs s) : ∃ (D : va_G) (cy : Nat → ClassId), va_K D vwCl (rb_tys cy) s := by
  obtain ⟨D, hD⟩ := st_kn hts
  obtain ⟨c0, a0, b0⟩ := st_arrP (hts _ rb_kai0)
  obtain ⟨c1, a1, b1⟩ := st_arrP (hts _ rb_kai1)
  obtain ⟨c2, a2, b2⟩ := st_arrO hAO.1
  obtain ⟨c3, a3, b3⟩ := st_arrO hAO.2.1
  obtain ⟨c4, a4, b4⟩ := st_arrO hAO.2.2.1
  refine ⟨D, fun k => if k = 0 then c0 else if k = 1 then c1 else if k = 2 then c2 else if k = 3 then c3 else c4, hD, fun k q hk => ?_⟩
  match k, hk with
  | 0, hk => cases hk; exact ⟨a0, b0⟩
  | 1, hk => cases hk; exact ⟨a1, b1⟩
  | 2, hk => cases hk; exact ⟨a2, b2⟩
  | 3, hk => cases hk; exact ⟨a3, b3⟩
  | 4, hk => cases hk; exact ⟨a4, b4⟩
  | k + 5, hk => simp [rb_tys] at hk
theorem st_arr {args : Array Value} {s : State} {A : Nat → Prop} {nm : String} {v0 v1 v2 : Int32} (hl : (Cond.laysStatic "RibbonPole" nm "[I").before args s = true) (hini : (Cond.initialized "RibbonPole").before args s = true) (har : (Cond.arrayOf (.static "RibbonPole" nm "[I") .int).before args s = true) (hlen : (Cond.eq (.length (.static "RibbonPole" nm "[I")) (.int 3)).before args s = true) (h0 : (Cond.eq (.elem (.static "RibbonPole" nm "[I") (.int 0)) (.int v0)).before args s = true) (h1 : (Cond.eq (.elem (.static "RibbonPole" nm "[I") (.int 1)) (.int v1)).before args s = true) (h2 : (Cond.eq (.elem (.static "RibbonPole" nm "[I") (.int 2)) (.int v2)).before args s = true) (hA : ∀ a : Nat, a < s.heap.size → ¬ A a) : ∃ t : Nat, va_Z "RibbonPole" nm "[I" (.ref t) A s s.heap ∧ va_T .int t 3 (fun j => .int ([v0, v1, v2].getD j 0)) A s s.heap := by
  obtain ⟨t, e, hT⟩ := va_Tof (N := 3) (f := fun j => .int ([v0, v1, v2].getD j 0)) (by decide) har (rb_evI hlen) (fun j hj => by
    rcases (show j = 0 ∨ j = 1 ∨ j = 2 by omega) with rfl | rfl | rfl
    · exact rb_evI h0
    · exact rb_evI h1
    · exact rb_evI h2) hA
  exact ⟨t, va_Zof hl hini e hA, hT⟩
theorem st_in11 : Cond.initialized "RibbonPole" ∈ lw_tbl := by decide +kernel
theorem st_ls0 : Cond.laysStatic "RibbonPole" "RULE_LOWEST" "[I" ∈ lw_tbl := by decide +kernel
theorem st_ls1 : Cond.laysStatic "RibbonPole" "RULE_HIGHEST" "[I" ∈ lw_tbl := by decide +kernel
theorem st_ls2 : Cond.laysStatic "RibbonPole" "RULE_WITHOUT" "[I" ∈ lw_tbl := by decide +kernel
theorem st_ls3 : Cond.laysStatic "RibbonPole" "TRAIT_LOWEST" "[I" ∈ lw_tbl := by decide +kernel
theorem st_ls4 : Cond.laysStatic "RibbonPole" "TRAIT_HIGHEST" "[I" ∈ lw_tbl := by decide +kernel
theorem st_ls5 : Cond.laysStatic "RibbonPole" "TRAIT_WITHOUT" "[I" ∈ lw_tbl := by decide +kernel
def st_tm (i : Nat) : Term := if i = 0 then .string "RibbonPole$GreenReader" 46 else if i = 1 then .string "RibbonPole$GreenReader" 65 else .string "RibbonPole$LawReader" 83
section ST
variable {b : Addr} {s : State}
abbrev st_fl (b : Addr) (s : State) : Prop := (Jvm.Cond.and given_1 narrow_1).before #[Value.ref b] s = true
theorem st_a0 (hgv : st_fl b s) (hlw : ∀ x ∈ lw_tbl, x.before #[Value.ref b] s = true) : ∃ t : Nat, va_Z "RibbonPole" (rb_sn 0) "[I" (.ref t) (fun q => s.heap.size ≤ q) s s.heap ∧ va_T .int t 3 (fun j => .int ((rb_sv 0).getD j 0)) (fun q => s.heap.size ≤ q) s s.heap := by
  have hs := flat_of_before _ hgv
  exact st_arr (hlw _ st_ls0) (hlw _ st_in11) (hs (.arrayOf (.static "RibbonPole" "RULE_LOWEST" "[I") .int) (by decide +kernel)) (hs (.eq (.length (.static "RibbonPole" "RULE_LOWEST" "[I")) (.int 3)) (by decide +kernel)) (hs (.eq (.elem (.static "RibbonPole" "RULE_LOWEST" "[I") (.int 0)) (.int 1)) (by decide +kernel)) (hs (.eq (.elem (.static "RibbonPole" "RULE_LOWEST" "[I") (.int 1)) (.int 0)) (by decide +kernel)) (hs (.eq (.elem (.static "RibbonPole" "RULE_LOWEST" "[I") (.int 2)) (.int 0)) (by decide +kernel)) (fun a h => Nat.not_le_of_lt h)
theorem st_a1 (hgv : st_fl b s) (hlw : ∀ x ∈ lw_tbl, x.before #[Value.ref b] s = true) : ∃ t : Nat, va_Z "RibbonPole" (rb_sn 1) "[I" (.ref t) (fun q => s.heap.size ≤ q) s s.heap ∧ va_T .int t 3 (fun j => .int ((rb_sv 1).getD j 0)) (fun q => s.heap.size ≤ q) s s.heap := by
  have hs := flat_of_before _ hgv
  exact st_arr (hlw _ st_ls1) (hlw _ st_in11) (hs (.arrayOf (.static "RibbonPole" "RULE_HIGHEST" "[I") .int) (by decide +kernel)) (hs (.eq (.length (.static "RibbonPole" "RULE_HIGHEST" "[I")) (.int 3)) (by decide +kernel)) (hs (.eq (.elem (.static "RibbonPole" "RULE_HIGHEST" "[I") (.int 0)) (.int 9)) (by decide +kernel)) (hs (.eq (.elem (.static "RibbonPole" "RULE_HIGHEST" "[I") (.int 1)) (.int 99)) (by decide +kernel)) (hs (.eq (.elem (.static "RibbonPole" "RULE_HIGHEST" "[I") (.int 2)) (.int 9)) (by decide +kernel)) (fun a h => Nat.not_le_of_lt h)
theorem st_a2 (hgv : st_fl b s) (hlw : ∀ x ∈ lw_tbl, x.before #[Value.ref b] s = true) : ∃ t : Nat, va_Z "RibbonPole" (rb_sn 2) "[I" (.ref t) (fun q => s.heap.size ≤ q) s s.heap ∧ va_T .int t 3 (fun j => .int ((rb_sv 2).getD j 0)) (fun q => s.heap.size ≤ q) s s.heap := by
  have hs := flat_of_before _ hgv
  exact st_arr (hlw _ st_ls2) (hlw _ st_in11) (hs (.arrayOf (.static "RibbonPole" "RULE_WITHOUT" "[I") .int) (by decide +kernel)) (hs (.eq (.length (.static "RibbonPole" "RULE_WITHOUT" "[I")) (.int 3)) (by decide +kernel)) (hs (.eq (.elem (.static "RibbonPole" "RULE_WITHOUT" "[I") (.int 0)) (.int 2)) (by decide +kernel)) (hs (.eq (.elem (.static "RibbonPole" "RULE_WITHOUT" "[I") (.int 1)) (.int 20)) (by decide +kernel)) (hs (.eq (.elem (.static "RibbonPole" "RULE_WITHOUT" "[I") (.int 2)) (.int 2)) (by decide +kernel)) (fun a h => Nat.not_le_of_lt h)
theorem st_a3 (hgv : st_fl b s) (hlw : ∀ x ∈ lw_tbl, x.before #[Value.ref b] s = true) : ∃ t : Nat, va_Z "RibbonPole" (rb_sn 3) "[I" (.ref t) (fun q => s.heap.size ≤ q) s s.heap ∧ va_T .int t 3 (fun j => .int ((rb_sv 3).getD j 0)) (fun q => s.heap.size ≤ q) s s.heap := by
  have hs := flat_of_before _ hgv
  exact st_arr (hlw _ st_ls3) (hlw _ st_in11) (hs (.arrayOf (.static "RibbonPole" "TRAIT_LOWEST" "[I") .int) (by decide +kernel)) (hs (.eq (.length (.static "RibbonPole" "TRAIT_LOWEST" "[I")) (.int 3)) (by decide +kernel)) (hs (.eq (.elem (.static "RibbonPole" "TRAIT_LOWEST" "[I") (.int 0)) (.int 0)) (by decide +kernel)) (hs (.eq (.elem (.static "RibbonPole" "TRAIT_LOWEST" "[I") (.int 1)) (.int 1)) (by decide +kernel)) (hs (.eq (.elem (.static "RibbonPole" "TRAIT_LOWEST" "[I") (.int 2)) (.int 0)) (by decide +kernel)) (fun a h => Nat.not_le_of_lt h)
theorem st_a4 (hgv : st_fl b s) (hlw : ∀ x ∈ lw_tbl, x.before #[Value.ref b] s = true) : ∃ t : Nat, va_Z "RibbonPole" (rb_sn 4) "[I" (.ref t) (fun q => s.heap.size ≤ q) s s.heap ∧ va_T .int t 3 (fun j => .int ((rb_sv 4).getD j 0)) (fun q => s.heap.size ≤ q) s s.heap := by
  have hs := flat_of_before _ hgv
  exact st_arr (hlw _ st_ls4) (hlw _ st_in11) (hs (.arrayOf (.static "RibbonPole" "TRAIT_HIGHEST" "[I") .int) (by decide +kernel)) (hs (.eq (.length (.static "RibbonPole" "TRAIT_HIGHEST" "[I")) (.int 3)) (by decide +kernel)) (hs (.eq (.elem (.static "RibbonPole" "TRAIT_HIGHEST" "[I") (.int 0)) (.int 7)) (by decide +kernel)) (hs (.eq (.elem (.static "RibbonPole" "TRAIT_HIGHEST" "[I") (.int 1)) (.int 99)) (by decide +kernel)) (hs (.eq (.elem (.static "RibbonPole" "TRAIT_HIGHEST" "[I") (.int 2)) (.int 9)) (by decide +kernel)) (fun a h => Nat.not_le_of_lt h)
theorem st_a5 (hgv : st_fl b s) (hlw : ∀ x ∈ lw_tbl, x.before #[Value.ref b] s = true) : ∃ t : Nat, va_Z "RibbonPole" (rb_sn 5) "[I" (.ref t) (fun q => s.heap.size ≤ q) s s.heap ∧ va_T .int t 3 (fun j => .int ((rb_sv 5).getD j 0)) (fun q => s.heap.size ≤ q) s s.heap := by
  have hs := flat_of_before _ hgv
  exact st_arr (hlw _ st_ls5) (hlw _ st_in11) (hs (.arrayOf (.static "RibbonPole" "TRAIT_WITHOUT" "[I") .int) (by decide +kernel)) (hs (.eq (.length (.static "RibbonPole" "TRAIT_WITHOUT" "[I")) (.int 3)) (by decide +kernel)) (hs (.eq (.elem (.static "RibbonPole" "TRAIT_WITHOUT" "[I") (.int 0)) (.int 0)) (by decide +kernel)) (hs (.eq (.elem (.static "RibbonPole" "TRAIT_WITHOUT" "[I") (.int 1)) (.int 30)) (by decide +kernel)) (hs (.eq (.elem (.static "RibbonPole" "TRAIT_WITHOUT" "[I") (.int 2)) (.int 5)) (by decide +kernel)) (fun a h => Nat.not_le_of_lt h)
set_option maxHeartbeats 4000000 in
theorem st_str (hgv : st_fl b s) : ∃ adK adV : Nat → Nat, vk_S 3 [3, 3, 6] [[116, 107, 119], [99, 108, 115], [116, 115, 117, 110, 104, 98]] adK adV (fun q => s.heap.size ≤ q) s s.heap ∧ ∀ i : Nat, i < 3 → (st_tm i).eval #[Value.ref b] s none [] s = some (.ref (adK i)) := by
  have hs := flat_of_before _ hgv
  have h3 : ∀ i : Nat, i < 3 → i = 0 ∨ i = 1 ∨ i = 2 := fun i hi => by omega
  refine vk_Sof (tm := st_tm) (fun i hi => ?_) (fun i hi => ?_) (fun i hi => ?_) (fun i hi => ?_) (fun i hi => ?_) (fun i hi j hj => ?_) (fun i j hi hj hij => ?_) (fun a h => Nat.not_le_of_lt h)
  · rcases h3 i hi with rfl | rfl | rfl <;> decide
  · rcases h3 i hi with rfl | rfl | rfl
    · exact hs (.exactly (.string "RibbonPole$GreenReader" 46) "java/lang/String") (by decide +kernel)
    · exact hs (.exactly (.string "RibbonPole$GreenReader" 65) "java/lang/String") (by decide +kernel)
    · exact hs (.exactly (.string "RibbonPole$LawReader" 83) "java/lang/String") (by decide +kernel)
  · rcases h3 i hi with rfl | rfl | rfl
    · exact hs (.eq (.field (.string "RibbonPole$GreenReader" 46) "java/lang/String" "coder" "B") (.int 0)) (by decide +kernel)
    · exact hs (.eq (.field (.string "RibbonPole$GreenReader" 65) "java/lang/String" "coder" "B") (.int 0)) (by decide +kernel)
    · exact hs (.eq (.field (.string "RibbonPole$LawReader" 83) "java/lang/String" "coder" "B") (.int 0)) (by decide +kernel)
  · rcases h3 i hi with rfl | rfl | rfl
    · exact hs (.arrayOf (.field (.string "RibbonPole$GreenReader" 46) "java/lang/String" "value" "[B") .byte) (by decide +kernel)
    · exact hs (.arrayOf (.field (.string "RibbonPole$GreenReader" 65) "java/lang/String" "value" "[B") .byte) (by decide +kernel)
    · exact hs (.arrayOf (.field (.string "RibbonPole$LawReader" 83) "java/lang/String" "value" "[B") .byte) (by decide +kernel)
  · rcases h3 i hi with rfl | rfl | rfl
    · exact hs (.eq (.length (.field (.string "RibbonPole$GreenReader" 46) "java/lang/String" "value" "[B")) (.int 3)) (by decide +kernel)
    · exact hs (.eq (.length (.field (.string "RibbonPole$GreenReader" 65) "java/lang/String" "value" "[B")) (.int 3)) (by decide +kernel)
    · exact hs (.eq (.length (.field (.string "RibbonPole$LawReader" 83) "java/lang/String" "value" "[B")) (.int 6)) (by decide +kernel)
  · rcases h3 i hi with rfl | rfl | rfl
    · have hj2 : j < 3 := hj
      rcases (show j = 0 ∨ j = 1 ∨ j = 2 by omega) with rfl | rfl | rfl
      · exact hs (.eq (.elem (.field (.string "RibbonPole$GreenReader" 46) "java/lang/String" "value" "[B") (.int 0)) (.int 116)) (by decide +kernel)
      · exact hs (.eq (.elem (.field (.string "RibbonPole$GreenReader" 46) "java/lang/String" "value" "[B") (.int 1)) (.int 107)) (by decide +kernel)
      · exact hs (.eq (.elem (.field (.string "RibbonPole$GreenReader" 46) "java/lang/String" "value" "[B") (.int 2)) (.int 119)) (by decide +kernel)
    · have hj2 : j < 3 := hj
      rcases (show j = 0 ∨ j = 1 ∨ j = 2 by omega) with rfl | rfl | rfl
      · exact hs (.eq (.elem (.field (.string "RibbonPole$GreenReader" 65) "java/lang/String" "value" "[B") (.int 0)) (.int 99)) (by decide +kernel)
      · exact hs (.eq (.elem (.field (.string "RibbonPole$GreenReader" 65) "java/lang/String" "value" "[B") (.int 1)) (.int 108)) (by decide +kernel)
      · exact hs (.eq (.elem (.field (.string "RibbonPole$GreenReader" 65) "java/lang/String" "value" "[B") (.int 2)) (.int 115)) (by decide +kernel)
    · have hj2 : j < 6 := hj
      rcases (show j = 0 ∨ j = 1 ∨ j = 2 ∨ j = 3 ∨ j = 4 ∨ j = 5 by omega) with rfl | rfl | rfl | rfl | rfl | rfl
      · exact hs (.eq (.elem (.field (.string "RibbonPole$LawReader" 83) "java/lang/String" "value" "[B") (.int 0)) (.int 116)) (by decide +kernel)
      · exact hs (.eq (.elem (.field (.string "RibbonPole$LawReader" 83) "java/lang/String" "value" "[B") (.int 1)) (.int 115)) (by decide +kernel)
      · exact hs (.eq (.elem (.field (.string "RibbonPole$LawReader" 83) "java/lang/String" "value" "[B") (.int 2)) (.int 117)) (by decide +kernel)
      · exact hs (.eq (.elem (.field (.string "RibbonPole$LawReader" 83) "java/lang/String" "value" "[B") (.int 3)) (.int 110)) (by decide +kernel)
      · exact hs (.eq (.elem (.field (.string "RibbonPole$LawReader" 83) "java/lang/String" "value" "[B") (.int 4)) (.int 104)) (by decide +kernel)
      · exact hs (.eq (.elem (.field (.string "RibbonPole$LawReader" 83) "java/lang/String" "value" "[B") (.int 5)) (.int 98)) (by decide +kernel)
  · rcases h3 i hi with rfl | rfl | rfl <;> rcases h3 j hj with rfl | rfl | rfl
    · exact absurd rfl hij
    · exact Or.inl (hs (.not (.eq (.string "RibbonPole$GreenReader" 46) (.string "RibbonPole$GreenReader" 65))) (by decide +kernel))
    · exact Or.inl (hs (.not (.eq (.string "RibbonPole$GreenReader" 46) (.string "RibbonPole$LawReader" 83))) (by decide +kernel))
    · exact Or.inr (hs (.not (.eq (.string "RibbonPole$GreenReader" 46) (.string "RibbonPole$GreenReader" 65))) (by decide +kernel))
    · exact absurd rfl hij
    · exact Or.inl (hs (.not (.eq (.string "RibbonPole$GreenReader" 65) (.string "RibbonPole$LawReader" 83))) (by decide +kernel))
    · exact Or.inr (hs (.not (.eq (.string "RibbonPole$GreenReader" 46) (.string "RibbonPole$LawReader" 83))) (by decide +kernel))
    · exact Or.inr (hs (.not (.eq (.string "RibbonPole$GreenReader" 65) (.string "RibbonPole$LawReader" 83))) (by decide +kernel))
    · exact absurd rfl hij
theorem st_sr0 : Cond.stringRef "RibbonPole$GreenReader" 46 "tkw" ∈ lw_tbl := by decide +kernel
theorem st_sr1 : Cond.stringRef "RibbonPole$GreenReader" 65 "cls" ∈ lw_tbl := by decide +kernel
theorem st_sr2 : Cond.stringRef "RibbonPole$LawReader" 83 "tsunhb" ∈ lw_tbl := by decide +kernel
theorem st_cs1 : Cond.laysStatic "java/lang/String" "COMPACT_STRINGS" "Z" ∈ lw_tbl := by decide +kernel
theorem st_cs2 : Cond.initialized "java/lang/String" ∈ lw_tbl := by decide +kernel
def st_sx (t : Nat → Nat) (k v : Nat → Nat) (i : Nat) : Nat := if i < 6 then t i else if i < 9 then k (i - 6) else v (i - 9)
theorem st_Sco {L : List Nat} {B : List (List Int32)} {k k' v v' : Nat → Nat} {A : Nat → Prop} {U : State} {H : Heap} (hk : ∀ i, i < 3 → k i = k' i) (hv : ∀ i, i < 3 → v i = v' i) (h : vk_S 3 L B k v A U H) : vk_S 3 L B k' v' A U H := ⟨fun i hi => by
  have := h.1 i hi
  rw [hk i hi, hv i hi] at this
  exact this, fun i j hi hj e => h.2 i j hi hj (by rw [hk i hi, hk j hj]; exact e)⟩
theorem st_SFX (hgv : st_fl b s) (hlw : ∀ x ∈ lw_tbl, x.before #[Value.ref b] s = true) : ∃ sx : Nat → Nat, ∀ (D : va_G) (cy : Nat → ClassId) (ad : Nat → Nat), rb_SFX (D, cy, ad, (fun q => s.heap.size ≤ q), sx) s s.heap := by
  have hs := flat_of_before _ hgv
  obtain ⟨t0, z0, y0⟩ := st_a0 hgv hlw
  obtain ⟨t1, z1, y1⟩ := st_a1 hgv hlw
  obtain ⟨t2, z2, y2⟩ := st_a2 hgv hlw
  obtain ⟨t3, z3, y3⟩ := st_a3 hgv hlw
  obtain ⟨t4, z4, y4⟩ := st_a4 hgv hlw
  obtain ⟨t5, z5, y5⟩ := st_a5 hgv hlw
  obtain ⟨k, v, hS, he⟩ := st_str hgv
  refine ⟨st_sx (fun i => [t0, t1, t2, t3, t4, t5].getD i 0) k v, fun D cy ad => ⟨fun i hi => ?_, ⟨?_, ?_, ?_⟩, st_Sco (fun i hi => ?_) (fun i hi => ?_) hS, ?_, fun x hx => va_Nw.of (st_nw x hx).2 (hlw x (st_nw x hx).1)⟩⟩
  · rcases (show i = 0 ∨ i = 1 ∨ i = 2 ∨ i = 3 ∨ i = 4 ∨ i = 5 by omega) with rfl | rfl | rfl | rfl | rfl | rfl
    · exact ⟨z0, y0⟩
    · exact ⟨z1, y1⟩
    · exact ⟨z2, y2⟩
    · exact ⟨z3, y3⟩
    · exact ⟨z4, y4⟩
    · exact ⟨z5, y5⟩
  · exact vk_R.of (hlw _ st_sr0) (he 0 (by decide))
  · exact vk_R.of (hlw _ st_sr1) (he 1 (by decide))
  · exact vk_R.of (hlw _ st_sr2) (he 2 (by decide))
  · rcases (show i = 0 ∨ i = 1 ∨ i = 2 by omega) with rfl | rfl | rfl <;> rfl
  · rcases (show i = 0 ∨ i = 1 ∨ i = 2 by omega) with rfl | rfl | rfl <;> rfl
  · exact va_Zof (hlw _ st_cs1) (hlw _ st_cs2) (rb_evI (hs (.eq (.static "java/lang/String" "COMPACT_STRINGS" "Z") (.int 1)) (by decide +kernel))) (fun a h => Nat.not_le_of_lt h)
theorem st_SFXn {D : va_G} {cy : Nat → ClassId} {ad sx : Nat → Nat} {A B : Nat → Prop} {U : State} {H : Heap} (h : rb_SFX (D, cy, ad, A, sx) U H) (hAB : ∀ q, B q → A q) : rb_SFX (D, cy, ad, B, sx) U H := by
  obtain ⟨h1, h2, h3, h4, h5⟩ := h
  exact ⟨fun i hi => ⟨(h1 i hi).1.narrow hAB, (h1 i hi).2.narrow hAB⟩, h2, h3.narrow hAB, h4.narrow hAB, h5⟩
theorem st_th1 : Cond.laysStatic Bundle.tN "UNASSIGNED_STACK" Bundle.steD ∈ lw_tbl := by decide +kernel
theorem st_th2 : Cond.laysStatic Bundle.tN "SUPPRESSED_SENTINEL" Bundle.listD ∈ lw_tbl := by decide +kernel
theorem st_th3 : Cond.initialized Bundle.tN ∈ lw_tbl := by decide +kernel
theorem st_th4 : ∀ x ∈ rb_txB, x ∈ lw_tbl := by decide +kernel
theorem st_TX (hgv : st_fl b s) (hlw : ∀ x ∈ lw_tbl, x.before #[Value.ref b] s = true) : rb_TX (fun q => s.heap.size ≤ q) s s.heap := by
  have hs := flat_of_before _ hgv
  exact ⟨vx_Zqof (hlw _ st_th1) (hlw _ st_th3) (hs (.isRef (.static Bundle.tN "UNASSIGNED_STACK" Bundle.steD)) (by decide +kernel)) (fun a h => Nat.not_le_of_lt h), vx_Zqof (hlw _ st_th2) (hlw _ st_th3) (hs (.isRef (.static Bundle.tN "SUPPRESSED_SENTINEL" Bundle.listD)) (by decide +kernel)) (fun a h => Nat.not_le_of_lt h), fun x hx => va_Nw.of (rb_txB_ot x hx) (hlw _ (st_th4 x hx))⟩
end ST
