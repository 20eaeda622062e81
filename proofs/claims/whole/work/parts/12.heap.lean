def rb_Ob (v : rb_Sv) (k ci : Nat) (fk : List rb_Fk) : Prop := v.1 k = .inl (ci, fk) ∧ k < v.2.1
def rb_Ar (v : rb_Sv) (k t n : Nat) : Prop := v.1 k = .inr (.inl (t, n)) ∧ k < v.2.1
def rb_Rr (v : rb_Sv) (k t n : Nat) (r : Nat → Nat) : Prop := v.1 k = .inr (.inr (t, n, r)) ∧ k < v.2.1
/-- a field by its place in the pool: of class ci the i-th -/
def rb_FR (own : String) (idx ci i : Nat) : Prop := ∃ (C : String) (T : u_T) (N : Nat) (ref : String), vwCl[ci]? = some (C, T, N) ∧ (∀ x ∈ u_ws C T N, x ∈ rb_tbl) ∧ i < N ∧ Cond.fieldLink own idx ref (T i).2.1 (T i).2.2.1 ∈ rb_tbl ∧ ((T i).1 = ref ∨ Cond.sameField ref (T i).1 (T i).2.1 (T i).2.2.1 ∈ rb_tbl)
def rb_FN (own : String) (idx ci i : Nat) : Prop := ∃ (C : String) (T : u_T) (N : Nat) (ref host : String), vwCl[ci]? = some (C, T, N) ∧ (∀ x ∈ u_ws C T N, x ∈ rb_tbl) ∧ i < N ∧ Cond.fieldLinkNest own idx ref (T i).2.1 (T i).2.2.1 host ∈ rb_tbl ∧ ((T i).1 = ref ∨ Cond.sameField ref (T i).1 (T i).2.1 (T i).2.2.1 ∈ rb_tbl)
def rb_Ty (ci i : Nat) (ty : FieldType) : Prop := ∃ (C : String) (T : u_T) (N : Nat) (ty0 : Nat → FieldType), vwCl[ci]? = some (C, T, N) ∧ (∀ k, k < N → parseFieldDescriptor (T k).2.2.1 = some (ty0 k)) ∧ (∀ a, a < N → ∀ b, b < N → a ≠ b → (T a).2.1 ≠ (T b).2.1) ∧ (T i).2.2.2 = false ∧ parseFieldDescriptor (T i).2.2.1 = some ty
theorem rb_ob_at {v : rb_Sv} {w : rb_Wd} {σ : rb_St} {k ci : Nat} {fk : List rb_Fk} (ob : rb_Ob v k ci fk) : (rb_ws v w σ)[k]? = some (rb_ad w k, .inr (ci, fk.mapIdx (fun i f => rb_f1 (rb_ad w) (σ.1 k) σ.2 i f))) := by
  rw [rb_ws_at ob.2, ob.1]; rfl
theorem rb_ar_at {v : rb_Sv} {w : rb_Wd} {σ : rb_St} {k t n : Nat} (ar : rb_Ar v k t n) : (rb_ws v w σ)[k]? = some (rb_ad w k, .inl (w.2.1 t, n, .inl (σ.1 k))) := by
  rw [rb_ws_at ar.2, ar.1]; rfl
theorem rb_rr_at {v : rb_Sv} {w : rb_Wd} {σ : rb_St} {k t n : Nat} {r : Nat → Nat} (rr : rb_Rr v k t n r) : (rb_ws v w σ)[k]? = some (rb_ad w k, .inl (w.2.1 t, n, .inr (.inr (.inr (.inr (fun i => some (rb_ad w (r i)))))))) := by
  rw [rb_ws_at rr.2, rr.1]; rfl
theorem rb_fk_at {ad : Nat → Nat} {row : Nat → Int32} {lg : Int64} {fk : List rb_Fk} {i : Nat} {f : rb_Fk} (hf : fk[i]? = some f) : (fk.mapIdx (fun i f => rb_f1 ad row lg i f))[i]? = some (rb_f1 ad row lg i f) := by
  simp [hf]
theorem rb_fk_set {ad : Nat → Nat} {row : Nat → Int32} {lg : Int64} {fk : List rb_Fk} {i : Nat} {x : Int32} (hf : fk[i]? = some none) : (fk.mapIdx (fun i f => rb_f1 ad row lg i f)).set i (.int x) = fk.mapIdx (fun j f => rb_f1 ad (upd row i x) lg j f) := by
  apply List.ext_getElem?
  intro j
  rw [List.getElem?_set]
  by_cases hj : i = j
  · subst hj
    have hl : i < fk.length := (List.getElem?_eq_some_iff.mp hf).1
    have hg : fk[i] = none := (List.getElem?_eq_some_iff.mp hf).2
    simp [hl, rb_f1, upd, hg]
  · rw [if_neg hj]
    simp only [List.getElem?_mapIdx]
    cases fk[j]? with
    | none => rfl
    | some f => cases f with
      | none => simp [rb_f1, upd, Ne.symm hj]
      | some f => cases f <;> rfl
theorem rb_fk_setL {ad : Nat → Nat} {row : Nat → Int32} {lg x : Int64} {fk : List rb_Fk} {i : Nat} (hf : fk[i]? = some (some none)) (hu : ∀ j, j ≠ i → fk[j]? ≠ some (some none)) : (fk.mapIdx (fun i f => rb_f1 ad row lg i f)).set i (.long x) = fk.mapIdx (fun j f => rb_f1 ad row x j f) := by
  apply List.ext_getElem?
  intro j
  rw [List.getElem?_set]
  by_cases hj : i = j
  · subst hj
    have hl : i < fk.length := (List.getElem?_eq_some_iff.mp hf).1
    have hg : fk[i] = some none := (List.getElem?_eq_some_iff.mp hf).2
    simp [hl, rb_f1, hg]
  · rw [if_neg hj]
    simp only [List.getElem?_mapIdx]
    have hq := hu j (Ne.symm hj)
    cases hfj : fk[j]? with
    | none => rfl
    | some f => cases f with
      | none => rfl
      | some f => cases f with
        | none => exact absurd hfj hq
        | some f => rfl
/-- no other cell holds a long -/
def rb_noL : rb_Sh → Bool
  | .inl (_, fk) => fk.all (fun f => match f with | some none => false | _ => true)
  | _ => true
theorem rb_noL_eq {cy : Nat → ClassId} {ad : Nat → Nat} {sh : rb_Sh} {row : Nat → Int32} {a b : Int64} (h : rb_noL sh = true) : rb_cel cy ad sh row a = rb_cel cy ad sh row b := by
  match sh, h with
  | .inl (ci, fk), h =>
    have h' : ∀ f ∈ fk, (match f with | some none => false | _ => true) = true := List.all_eq_true.mp h
    have e : fk.mapIdx (fun i f => rb_f1 ad row a i f) = fk.mapIdx (fun i f => rb_f1 ad row b i f) := by
      apply List.ext_getElem?
      intro j
      simp only [List.getElem?_mapIdx]
      cases hfj : fk[j]? with
      | none => rfl
      | some f =>
        have h3 := h' f (List.mem_of_getElem? hfj)
        cases f with
        | none => rfl
        | some f => cases f with
          | none => simp at h3
          | some f => rfl
    simp only [rb_cel, e]
  | .inr (.inl (_, _)), _ => rfl
  | .inr (.inr (_, _, _)), _ => rfl
section RBH
variable {z : rb_Z} {v : rb_Sv} {w : rb_Wd} {own : String} {cc : ByteArray} {nL : Nat} {ret : Option FieldType} {h : Nat} {Q : State → Prop} {pc : Nat} {lv lv2 : List (Nat × Value)} {st : List Value} {σ : rb_St}
theorem rb_get (hC : rb_Cx z v w own cc nL ret h) {idx ci i k : Nat} {fk : List rb_Fk} (f : rb_Fk) (fr : rb_FR own idx ci i) (ob : rb_Ob v k ci fk) (hf : fk[i]? = some f) (hd : decode cc pc = .ok (.getfield idx, 3)) (kk : rb_At z v w nL Q (pc + 3) lv (rb_f1 (rb_ad w) (σ.1 k) σ.2 i f :: st) σ) : rb_At z v w nL Q pc lv (.ref (rb_ad w k) :: st) σ := by
  intro H locs ls hP hS hl
  obtain ⟨C, T, N, ref, h1, h2, h3, h4, h5⟩ := fr
  obtain ⟨hx, hb, hr, hml, hown, hts, hlk, hR, hK, hI, hV⟩ := hC
  refine va_get (ref := ref) hx hb hts h2 hown hK hP k (rb_ob_at ob) h1 i h3 (hts _ h4) ?_ (rb_fk_at hf) hd (kk H locs ls hP hS hl)
  intro x hx9
  rcases h5 with h5 | h5
  · rw [← h5]; exact hx9
  · exact u_same (hts _ h5) x hx9
theorem rb_getN (hC : rb_Cx z v w own cc nL ret h) {idx ci i k : Nat} {fk : List rb_Fk} (f : rb_Fk) (fr : rb_FN own idx ci i) (ob : rb_Ob v k ci fk) (hf : fk[i]? = some f) (hd : decode cc pc = .ok (.getfield idx, 3)) (kk : rb_At z v w nL Q (pc + 3) lv (rb_f1 (rb_ad w) (σ.1 k) σ.2 i f :: st) σ) : rb_At z v w nL Q pc lv (.ref (rb_ad w k) :: st) σ := by
  intro H locs ls hP hS hl
  obtain ⟨C, T, N, ref, host, h1, h2, h3, h4, h5⟩ := fr
  obtain ⟨hx, hb, hr, hml, hown, hts, hlk, hR, hK, hI, hV⟩ := hC
  refine va_getN (ref := ref) hx hb hts h2 hown hK hP k (rb_ob_at ob) h1 i h3 (hts _ h4) ?_ (rb_fk_at hf) hd (kk H locs ls hP hS hl)
  intro x hx9
  rcases h5 with h5 | h5
  · rw [← h5]; exact hx9
  · exact u_same (hts _ h5) x hx9
theorem rb_getI (hC : rb_Cx z v w own cc nL ret h) {idx ci i k : Nat} {fk : List rb_Fk} (fr : rb_FR own idx ci i) (ob : rb_Ob v k ci fk) (hf : fk[i]? = some none) (hd : decode cc pc = .ok (.getfield idx, 3)) (kk : rb_At z v w nL Q (pc + 3) lv (.int (σ.1 k i) :: st) σ) : rb_At z v w nL Q pc lv (.ref (rb_ad w k) :: st) σ := rb_get hC none fr ob hf hd kk
theorem rb_getJ (hC : rb_Cx z v w own cc nL ret h) {idx ci i k : Nat} {fk : List rb_Fk} (fr : rb_FR own idx ci i) (ob : rb_Ob v k ci fk) (hf : fk[i]? = some (some none)) (hd : decode cc pc = .ok (.getfield idx, 3)) (kk : rb_At z v w nL Q (pc + 3) lv (.long σ.2 :: st) σ) : rb_At z v w nL Q pc lv (.ref (rb_ad w k) :: st) σ := rb_get hC (some none) fr ob hf hd kk
theorem rb_getR (hC : rb_Cx z v w own cc nL ret h) {idx ci i k j : Nat} {fk : List rb_Fk} (fr : rb_FR own idx ci i) (ob : rb_Ob v k ci fk) (hf : fk[i]? = some (some (some j))) (hd : decode cc pc = .ok (.getfield idx, 3)) (kk : rb_At z v w nL Q (pc + 3) lv (.ref (rb_ad w j) :: st) σ) : rb_At z v w nL Q pc lv (.ref (rb_ad w k) :: st) σ := rb_get hC (some (some j)) fr ob hf hd kk
theorem rb_getIN (hC : rb_Cx z v w own cc nL ret h) {idx ci i k : Nat} {fk : List rb_Fk} (fr : rb_FN own idx ci i) (ob : rb_Ob v k ci fk) (hf : fk[i]? = some none) (hd : decode cc pc = .ok (.getfield idx, 3)) (kk : rb_At z v w nL Q (pc + 3) lv (.int (σ.1 k i) :: st) σ) : rb_At z v w nL Q pc lv (.ref (rb_ad w k) :: st) σ := rb_getN hC none fr ob hf hd kk
theorem rb_getRN (hC : rb_Cx z v w own cc nL ret h) {idx ci i k j : Nat} {fk : List rb_Fk} (fr : rb_FN own idx ci i) (ob : rb_Ob v k ci fk) (hf : fk[i]? = some (some (some j))) (hd : decode cc pc = .ok (.getfield idx, 3)) (kk : rb_At z v w nL Q (pc + 3) lv (.ref (rb_ad w j) :: st) σ) : rb_At z v w nL Q pc lv (.ref (rb_ad w k) :: st) σ := rb_getN hC (some (some j)) fr ob hf hd kk
theorem rb_putI (hC : rb_Cx z v w own cc nL ret h) {idx ci i k : Nat} {fk : List rb_Fk} {x : Int32} {ty : FieldType} (fr : rb_FR own idx ci i) (ft : rb_Ty ci i ty) (ob : rb_Ob v k ci fk) (hf : fk[i]? = some none) (hn : narrow ty (.int x) = .int x) (hfit : fits ty (.int x) = true) (hd : decode cc pc = .ok (.putfield idx, 3)) (kk : rb_At z v w nL Q (pc + 3) lv st (rb_sI σ k i x)) : rb_At z v w nL Q pc lv (.int x :: .ref (rb_ad w k) :: st) σ := by
  intro H locs ls hP hS hl
  obtain ⟨C, T, N, ref, h1, h2, h3, h4, h5⟩ := fr
  obtain ⟨C', T', N', ty0, g1, g2, g3, g4, g5⟩ := ft
  rw [h1] at g1
  cases g1
  obtain ⟨hx, hb, hr, hml, hown, hts, hlk, hR, hK, hI, hV⟩ := hC
  refine va_put (ref := ref) hx hb hts h2 ty0 g2 g3 hown hK hP (rb_D hI) hS k (rb_ob_at ob) h1 i h3 (hts _ h4) ?_ g4 g5 hn hfit ?_ hd (fun H1 locs1 hP1 hD1 hS1 => ?_)
  · intro x hx9
    rcases h5 with h5 | h5
    · rw [← h5]; exact hx9
    · exact u_same (hts _ h5) x hx9
  · simp; exact (List.getElem?_eq_some_iff.mp hf).1
  · refine kk H1 locs1 ls ?_ hS1 hl
    have e : rb_ws v w (rb_sI σ k i x) = (rb_ws v w σ).set k (rb_ad w k, .inr (ci, (fk.mapIdx (fun i f => rb_f1 (rb_ad w) (σ.1 k) σ.2 i f)).set i (.int x))) := by
      rw [rb_sI, ← rb_ws_row _ ob.2, ob.1, rb_fk_set hf]; rfl
    rw [e]; exact hP1
theorem rb_putJ (hC : rb_Cx z v w own cc nL ret h) {idx ci i k : Nat} {fk : List rb_Fk} {x : Int64} (fr : rb_FR own idx ci i) (ft : rb_Ty ci i .long) (ob : rb_Ob v k ci fk) (hf : fk[i]? = some (some none)) (hu : ∀ j, j ≠ i → fk[j]? ≠ some (some none)) (hno : ∀ j, j < v.2.1 → j ≠ k → rb_noL (v.1 j) = true) (hd : decode cc pc = .ok (.putfield idx, 3)) (kk : rb_At z v w nL Q (pc + 3) lv st (rb_sL σ x)) : rb_At z v w nL Q pc lv (.long x :: .ref (rb_ad w k) :: st) σ := by
  intro H locs ls hP hS hl
  obtain ⟨C, T, N, ref, h1, h2, h3, h4, h5⟩ := fr
  obtain ⟨C', T', N', ty0, g1, g2, g3, g4, g5⟩ := ft
  rw [h1] at g1
  cases g1
  obtain ⟨hx, hb, hr, hml, hown, hts, hlk, hR, hK, hI, hV⟩ := hC
  refine va_put (ref := ref) hx hb hts h2 ty0 g2 g3 hown hK hP (rb_D hI) hS k (rb_ob_at ob) h1 i h3 (hts _ h4) ?_ g4 g5 (v := .long x) rfl rfl ?_ hd (fun H1 locs1 hP1 hD1 hS1 => ?_)
  · intro x hx9
    rcases h5 with h5 | h5
    · rw [← h5]; exact hx9
    · exact u_same (hts _ h5) x hx9
  · simp; exact (List.getElem?_eq_some_iff.mp hf).1
  · refine kk H1 locs1 ls ?_ hS1 hl
    have e : rb_ws v w (rb_sL σ x) = (rb_ws v w σ).set k (rb_ad w k, .inr (ci, (fk.mapIdx (fun i f => rb_f1 (rb_ad w) (σ.1 k) σ.2 i f)).set i (.long x))) := by
      rw [rb_fk_setL hf hu]
      apply List.ext_getElem?
      intro j
      rw [List.getElem?_set]
      by_cases hj : k = j
      · subst hj
        rw [if_pos rfl, if_pos (by simp [rb_ws]; exact ob.2), rb_ws_at ob.2, ob.1]
        rfl
      · rw [if_neg hj]
        by_cases hl : j < v.2.1
        · rw [rb_ws_at hl, rb_ws_at hl]
          simp only [rb_sL]
          rw [rb_noL_eq (hno j hl (Ne.symm hj))]
        · rw [List.getElem?_eq_none (by simp [rb_ws]; omega), List.getElem?_eq_none (by simp [rb_ws]; omega)]
    rw [e]; exact hP1
theorem rb_iald (hC : rb_Cx z v w own cc nL ret h) {k n : Nat} {i : Int32} (ar : rb_Ar v k 0 n) (hin : vp_in i n) (hd : decode cc pc = .ok (.iaload, 1)) (kk : rb_At z v w nL Q (pc + 1) lv (.int (σ.1 k i.toNatClampNeg) :: st) σ) : rb_At z v w nL Q pc lv (.int i :: .ref (rb_ad w k) :: st) σ :=
  fun H locs ls hP hS hl => va_iald hC.1 hC.2.1 hC.2.2.2.2.2.2.2.2.1 hP k 0 (rb_ar_at ar) rfl hin hd (kk H locs ls hP hS hl)
theorem rb_zald (hC : rb_Cx z v w own cc nL ret h) {k n : Nat} {i : Int32} (ar : rb_Ar v k 1 n) (hin : vp_in i n) (hd : decode cc pc = .ok (.baload, 1)) (kk : rb_At z v w nL Q (pc + 1) lv (.int (σ.1 k i.toNatClampNeg) :: st) σ) : rb_At z v w nL Q pc lv (.int i :: .ref (rb_ad w k) :: st) σ :=
  fun H locs ls hP hS hl => va_zald hC.1 hC.2.1 hC.2.2.2.2.2.2.2.2.1 hP k 1 (rb_ar_at ar) rfl hin hd (kk H locs ls hP hS hl)
theorem rb_aald (hC : rb_Cx z v w own cc nL ret h) {k t n : Nat} {C : String} {r : Nat → Nat} {i : Int32} (rr : rb_Rr v k t n r) (ht : ∀ cy, (rb_tys cy)[t]? = some (cy t, .object C)) (hin : vp_in i n) (hd : decode cc pc = .ok (.aaload, 1)) (kk : rb_At z v w nL Q (pc + 1) lv (.ref (rb_ad w (r i.toNatClampNeg)) :: st) σ) : rb_At z v w nL Q pc lv (.int i :: .ref (rb_ad w k) :: st) σ :=
  fun H locs ls hP hS hl => va_aldq hC.1 hC.2.1 hC.2.2.2.2.2.2.2.2.1 hP k t (rb_rr_at rr) (ht _) hin hd (kk H locs ls hP hS hl)
theorem rb_iast (hC : rb_Cx z v w own cc nL ret h) {k n : Nat} {i x : Int32} (ar : rb_Ar v k 0 n) (hin : vp_in i n) (hd : decode cc pc = .ok (.iastore, 1)) (kk : rb_At z v w nL Q (pc + 1) lv st (rb_sI σ k i.toNatClampNeg x)) : rb_At z v w nL Q pc lv (.int x :: .int i :: .ref (rb_ad w k) :: st) σ := by
  intro H locs ls hP hS hl
  refine va_iast hC.1 hC.2.1 hC.2.2.2.2.2.2.2.2.1 hP (rb_D hC.2.2.2.2.2.2.2.2.2.1) hS k 0 (rb_ar_at ar) rfl hin hd (fun H1 locs1 hP1 hD1 hS1 => kk H1 locs1 ls ?_ hS1 hl)
  have e : rb_ws v w (rb_sI σ k i.toNatClampNeg x) = (rb_ws v w σ).set k (rb_ad w k, .inl (w.2.1 0, n, .inl (upd (σ.1 k) i.toNatClampNeg x))) := by
    rw [rb_sI, ← rb_ws_row _ ar.2, ar.1]; rfl
  rw [e]; exact hP1
theorem rb_zast (hC : rb_Cx z v w own cc nL ret h) {k n : Nat} {i x : Int32} (ar : rb_Ar v k 1 n) (hin : vp_in i n) (hx : vp_nar .boolean x = x) (hd : decode cc pc = .ok (.bastore, 1)) (kk : rb_At z v w nL Q (pc + 1) lv st (rb_sI σ k i.toNatClampNeg x)) : rb_At z v w nL Q pc lv (.int x :: .int i :: .ref (rb_ad w k) :: st) σ := by
  intro H locs ls hP hS hl
  refine va_zast hC.1 hC.2.1 hC.2.2.2.2.2.2.2.2.1 hP (rb_D hC.2.2.2.2.2.2.2.2.2.1) hS k 1 (rb_ar_at ar) rfl hin hd (fun H1 locs1 hP1 hD1 hS1 => kk H1 locs1 ls ?_ hS1 hl)
  rw [hx] at hP1
  have e : rb_ws v w (rb_sI σ k i.toNatClampNeg x) = (rb_ws v w σ).set k (rb_ad w k, .inl (w.2.1 1, n, .inl (upd (σ.1 k) i.toNatClampNeg x))) := by
    rw [rb_sI, ← rb_ws_row _ ar.2, ar.1]; rfl
  rw [e]; exact hP1
def rb_ck (sp dp n : Int32) (n0 n1 : Nat) : Prop := ¬ sp < 0 ∧ ¬ dp < 0 ∧ ¬ n < 0 ∧ sp.toNatClampNeg + n.toNatClampNeg ≤ n0 ∧ dp.toNatClampNeg + n.toNatClampNeg ≤ n1
theorem rb_kan : Cond.native arraycopyName ∈ rb_tbl := rb_in (by decide +kernel) (by decide +kernel)
theorem rb_kas : Cond.static arraycopyName ∈ rb_tbl := rb_in (by decide +kernel) (by decide +kernel)
theorem rb_kai : Cond.initialized "java/lang/System" ∈ rb_tbl := rb_in (by decide +kernel) (by decide +kernel)
theorem rb_copy (hC : rb_Cx z v w own cc nL ret h) {idx k0 k1 n0 n1 : Nat} {sp dp n : Int32} (hk : Cond.methodLink own idx arraycopyName ∈ rb_tbl) (ar0 : rb_Ar v k0 0 n0) (ar1 : rb_Ar v k1 0 n1) (hok : rb_ck sp dp n n0 n1) (hR : 1 ≤ h ∧ (st.map fun v => v.category).sum ≤ 8) (hd : decode cc pc = .ok (.invokestatic idx, 3)) (kk : rb_At z v w nL Q (pc + 3) lv st (rb_cp σ k0 k1 sp.toNatClampNeg dp.toNatClampNeg n.toNatClampNeg)) : rb_At z v w nL Q pc lv (.int n :: .int dp :: .ref (rb_ad w k1) :: .int sp :: .ref (rb_ad w k0) :: st) σ := by
  intro H locs ls hP hS hl
  obtain ⟨hx, hb, hr, hml, hown, hts, hlk, hRm, hK, hI, hV⟩ := hC
  refine va_copyi (ty := .int) hx hb (hml.trans hl.1.symm) hown (hts _ hk) (hts _ rb_kan) (hts _ rb_kas) (hts _ rb_kai) hK hP (rb_D hI) hS k0 k1 0 0 (rb_ar_at ar0) (rb_ar_at ar1) rfl rfl rfl hok.1 hok.2.1 hok.2.2.1 hok.2.2.2.1 hok.2.2.2.2 (fun _ _ => rfl) (by rw [hRm]; exact hR.1) ?_ hd (fun H1 locs1 hP1 hD1 hS1 => kk H1 locs1 ls ?_ hS1 hl)
  · rw [hRm]
    have h5 : nativeFrameWords "java/lang/System" "arraycopy" 5 + 11 ≤ 40 := by decide +kernel
    have h6 : 48 ≤ (rb_rm h).locals := by show 48 ≤ 48 * h; omega
    omega
  · have e : rb_ws v w (rb_cp σ k0 k1 sp.toNatClampNeg dp.toNatClampNeg n.toNatClampNeg) = (rb_ws v w σ).set k1 (rb_ad w k1, .inl (w.2.1 0, n1, .inl (va_cpy (σ.1 k0) (σ.1 k1) sp.toNatClampNeg dp.toNatClampNeg n.toNatClampNeg))) := by
      rw [rb_cp, ← rb_ws_row _ ar1.2, ar1.1]; rfl
    rw [e]; exact hP1
theorem rb_iret (hC : rb_Cx z v w own cc nL (some .int) h) {x : Int32} (hd : decode cc pc = .ok (.ireturn, 1)) : rb_At z v w nL (rb_Q z v w (some (.int x)) σ) pc lv [.int x] σ := by
  intro H locs ls hP hS hl
  have hlocks := hC.2.2.2.2.2.2.1
  exact W.iret (v := x) hC.1 hC.2.1 hC.2.2.1 (fun t ht hW => ⟨rfl, by rw [ht]; exact hP, hS.F ht⟩) hS.2.2 hd hlocks
theorem rb_zret (hC : rb_Cx z v w own cc nL (some .boolean) h) {x : Int32} (hn : narrow .boolean (.int x) = .int x) (hd : decode cc pc = .ok (.ireturn, 1)) : rb_At z v w nL (rb_Q z v w (some (.int x)) σ) pc lv [.int x] σ := by
  intro H locs ls hP hS hl
  have hlocks := hC.2.2.2.2.2.2.1
  exact W.zret (v := x) hC.1 hC.2.1 hC.2.2.1 hn (fun t ht hW => ⟨rfl, by rw [ht]; exact hP, hS.F ht⟩) hS.2.2 hd hlocks
theorem rb_lret (hC : rb_Cx z v w own cc nL (some .long) h) {x : Int64} (hd : decode cc pc = .ok (.lreturn, 1)) : rb_At z v w nL (rb_Q z v w (some (.long x)) σ) pc lv [.long x] σ := by
  intro H locs ls hP hS hl
  have hlocks := hC.2.2.2.2.2.2.1
  exact W.lret (v := x) hC.1 hC.2.1 hC.2.2.1 (fun t ht hW => ⟨rfl, by rw [ht]; exact hP, hS.F ht⟩) hS.2.2 hd hlocks
theorem rb_vret (hC : rb_Cx z v w own cc nL none h) (hd : decode cc pc = .ok (.return_, 1)) : rb_At z v w nL (rb_Q z v w none σ) pc lv [] σ := by
  intro H locs ls hP hS hl
  have hlocks := hC.2.2.2.2.2.2.1
  exact W.vret hC.1 hC.2.1 hC.2.2.1 (fun t ht hW => ⟨rfl, by rw [ht]; exact hP, hS.F ht⟩) hS.2.2 hd hlocks
theorem rb_aret (hC : rb_Cx z v w own cc nL ret h) {x : Value} {C : String} (hr : ret = some (.object C)) (hv : x = .null ∨ ∃ a, x = .ref a) (hd : decode cc pc = .ok (.areturn, 1)) : rb_At z v w nL (rb_Q z v w (some x) σ) pc lv [x] σ := by
  intro H locs ls hP hS hl
  have hlocks := hC.2.2.2.2.2.2.1
  exact W.aret (v := x) hC.1 hC.2.1 (hC.2.2.1.trans hr) (Or.inl ⟨_, rfl⟩) hv (fun t ht hW => ⟨rfl, by rw [ht]; exact hP, hS.F ht⟩) hS.2.2 hd hlocks
end RBH
