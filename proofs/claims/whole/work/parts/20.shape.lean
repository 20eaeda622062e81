/-! THE SHAPES of the two worlds. X: the class; M: the reference. -/
def rb_tabX : List rb_Sh := [.inl (10, [some (some 1), some (some 3), some (some 7), some (some 12), some (some 15), some (some 18), some (some 23), some (some 28), some (some 230), none, none, some (some 231), none, some (some 232), some (some 233), none, some (some 234), some (some 235), some (some 236), some none]),
  .inl (8, [some (some 2), none]),
  .inr (.inl (0, 240)),
  .inl (4, [some (some 1), none, some (some 4), none]),
  .inl (3, [some (some 5), some (some 6), none]),
  .inr (.inl (0, 3)),
  .inr (.inl (0, 24)),
  .inl (6, [some (some 1), none, some (some 8)]),
  .inl (5, [some (some 9), none, some (some 10), some (some 11), none]),
  .inr (.inl (0, 240)),
  .inr (.inl (0, 8)),
  .inr (.inl (0, 64)),
  .inl (2, [some (some 1), none, some (some 13)]),
  .inl (1, [some (some 14), none]),
  .inr (.inl (0, 48)),
  .inl (3, [some (some 16), some (some 17), none]),
  .inr (.inl (0, 3)),
  .inr (.inl (0, 24))]
def rb_tabY : List rb_Sh := [.inl (0, [some (some 29), none, none]),
  .inr (.inr (2, 40, fun i => 30 + 5 * i))]
def rb_tabW : List rb_Sh := [.inr (.inr (3, 4, fun i => 240 + 4 * i)),
  .inr (.inr (4, 6, fun i => 256 + 2 * i)),
  .inr (.inl (0, 5)),
  .inr (.inl (0, 10)),
  .inr (.inr (2, 9, fun i => 268 + 5 * i)),
  .inr (.inl (0, 48)),
  .inl (9, [none, some (some 237), some (some 238), some (some 239)]),
  .inr (.inl (0, 8)),
  .inr (.inl (0, 8)),
  .inr (.inl (0, 8)),
  .inl (5, [some (some 241), none, some (some 242), some (some 243), none]),
  .inr (.inl (0, 240)),
  .inr (.inl (0, 8)),
  .inr (.inl (0, 64)),
  .inl (5, [some (some 245), none, some (some 246), some (some 247), none]),
  .inr (.inl (0, 240)),
  .inr (.inl (0, 8)),
  .inr (.inl (0, 64)),
  .inl (5, [some (some 249), none, some (some 250), some (some 251), none]),
  .inr (.inl (0, 240)),
  .inr (.inl (0, 8)),
  .inr (.inl (0, 64)),
  .inl (5, [some (some 253), none, some (some 254), some (some 255), none]),
  .inr (.inl (0, 240)),
  .inr (.inl (0, 8)),
  .inr (.inl (0, 64)),
  .inl (1, [some (some 257), none]),
  .inr (.inl (0, 48)),
  .inl (1, [some (some 259), none]),
  .inr (.inl (0, 48)),
  .inl (1, [some (some 261), none]),
  .inr (.inl (0, 48)),
  .inl (1, [some (some 263), none]),
  .inr (.inl (0, 48)),
  .inl (1, [some (some 265), none]),
  .inr (.inl (0, 48)),
  .inl (1, [some (some 267), none]),
  .inr (.inl (0, 48))]
def rb_poSh (b : Nat) : Nat → rb_Sh
  | 0 => .inl (7, [none, none, none, none, some (some (b + 1)), some (some (b + 2)), some (some (b + 3)), some (some (b + 4))])
  | 1 => .inr (.inl (0, 8))
  | 2 => .inr (.inl (0, 8))
  | 3 => .inr (.inl (0, 48))
  | _ => .inr (.inl (0, 60))
def rb_poAs (c k : Nat) : rb_Sh := rb_poSh (k - (k - c) % 5) ((k - c) % 5)
def rb_shX (k : Nat) : rb_Sh := if k < 18 then rb_tabX.getD k (.inr (.inl (0, 0))) else if k < 28 then rb_poAs 18 k else if k < 30 then rb_tabY.getD (k - 28) (.inr (.inl (0, 0))) else if k < 230 then rb_poAs 30 k else if k < 268 then rb_tabW.getD (k - 230) (.inr (.inl (0, 0))) else rb_poAs 268 k
def rb_isPole (k : Nat) : Prop := (18 ≤ k ∧ k < 28 ∧ (k - 18) % 5 = 0) ∨ (30 ≤ k ∧ k < 230 ∧ (k - 30) % 5 = 0) ∨ (268 ≤ k ∧ k < 313 ∧ (k - 268) % 5 = 0)
def rb_isLaw (k : Nat) : Prop := k = 240 ∨ k = 244 ∨ k = 248 ∨ k = 252
def rb_isFig (k : Nat) : Prop := k = 256 ∨ k = 258 ∨ k = 260 ∨ k = 262 ∨ k = 264 ∨ k = 266
def rb_tabM : List rb_Sh := [.inl (11, [none, some (some 1), none, none, none, none, some (some 2), some (some 3), some (some 4), some (some 5), some (some 6), some (some 7), some (some 8), none, none, some (some 9), some (some 10), some (some 11), some (some 12), none, some (some 13), some (some 14), none, some (some 15), some (some 16), none, none, some (some 17), some (some 18), none, some (some 19), some (some 20), some (some 21), none, some (some 22), none, some none, some (some 23), some (some 24), some (some 25), some (some 26), some (some 27), some (some 28), some (some 29), some (some 30), some (some 31), some (some 32), none, some (some 33), none]),
  .inr (.inl (0, 240)),
  .inr (.inl (0, 2600)),
  .inr (.inl (0, 2600)),
  .inr (.inl (0, 5)),
  .inr (.inl (0, 5)),
  .inr (.inl (0, 700)),
  .inr (.inl (0, 700)),
  .inr (.inl (0, 700)),
  .inr (.inl (0, 6)),
  .inr (.inl (0, 80)),
  .inr (.inl (0, 3)),
  .inr (.inl (0, 21)),
  .inr (.inl (0, 3)),
  .inr (.inl (0, 21)),
  .inr (.inl (0, 336)),
  .inr (.inl (0, 7)),
  .inr (.inl (0, 398)),
  .inr (.inl (0, 5)),
  .inr (.inl (0, 88)),
  .inr (.inl (0, 88)),
  .inr (.inl (1, 88)),
  .inr (.inl (0, 15920)),
  .inr (.inl (0, 7)),
  .inr (.inl (0, 48)),
  .inr (.inl (0, 5040)),
  .inr (.inl (0, 5040)),
  .inr (.inl (0, 7)),
  .inr (.inl (0, 217)),
  .inr (.inl (0, 10)),
  .inr (.inl (0, 10)),
  .inr (.inl (0, 10)),
  .inr (.inl (1, 10)),
  .inr (.inl (0, 398))]
def rb_shM (k : Nat) : rb_Sh := rb_tabM.getD k (.inr (.inl (0, 0)))
def rb_sn : Nat → String
  | 0 => "RULE_LOWEST"
  | 1 => "RULE_HIGHEST"
  | 2 => "RULE_WITHOUT"
  | 3 => "TRAIT_LOWEST"
  | 4 => "TRAIT_HIGHEST"
  | _ => "TRAIT_WITHOUT"
def rb_sv : Nat → List Int32
  | 0 => [1, 0, 0]
  | 1 => [9, 99, 9]
  | 2 => [2, 20, 2]
  | 3 => [0, 1, 0]
  | 4 => [7, 99, 9]
  | _ => [0, 30, 5]
def rb_nw : List Cond := [.fieldLinkNest "RibbonPole$Green" 22 "RibbonPole" "RULE_WITHOUT" "[I" "RibbonPole",
  .fieldLinkNest "RibbonPole$GreenReader" 48 "RibbonPole" "RULE_LOWEST" "[I" "RibbonPole",
  .fieldLinkNest "RibbonPole$GreenReader" 52 "RibbonPole" "RULE_HIGHEST" "[I" "RibbonPole",
  .fieldLinkNest "RibbonPole$Green" 25 "RibbonPole" "TRAIT_WITHOUT" "[I" "RibbonPole",
  .fieldLinkNest "RibbonPole$GreenReader" 67 "RibbonPole" "TRAIT_LOWEST" "[I" "RibbonPole",
  .fieldLinkNest "RibbonPole$GreenReader" 70 "RibbonPole" "TRAIT_HIGHEST" "[I" "RibbonPole",
  .methodLinkNest "RibbonPole$FigureReader" 56 ⟨"RibbonPole", "letterOf", "(IZ)I"⟩ "RibbonPole",
  .declares ⟨"RibbonPole$Reader", "readAll", "()Z"⟩]
def rb_SFX (w : rb_Wd) (U : State) (H : Heap) : Prop :=
  (∀ i : Nat, i < 6 → va_Z "RibbonPole" (rb_sn i) "[I" (.ref (rb_sx w i)) (rb_A w) U H ∧ va_T .int (rb_sx w i) 3 (fun j => .int ((rb_sv i).getD j 0)) (rb_A w) U H) ∧
  (vk_R "RibbonPole$GreenReader" 46 "tkw" (rb_sx w 6) U ∧ vk_R "RibbonPole$GreenReader" 65 "cls" (rb_sx w 7) U ∧ vk_R "RibbonPole$LawReader" 83 "tsunhb" (rb_sx w 8) U) ∧
  vk_S 3 [3, 3, 6] [[116, 107, 119], [99, 108, 115], [116, 115, 117, 110, 104, 98]] (fun i => rb_sx w (6 + i)) (fun i => rb_sx w (9 + i)) (rb_A w) U H ∧
  va_Z "java/lang/String" "COMPACT_STRINGS" "Z" (.int 1) (rb_A w) U H ∧
  ∀ x ∈ rb_nw, va_Nw x U
def rb_vX : rb_Sv := (rb_shX, 313, rb_SFX)
def rb_vM : rb_Sv := (rb_shM, 34, fun _ _ _ => True)
theorem rb_obX0 : rb_Ob rb_vX 0 10 [some (some 1), some (some 3), some (some 7), some (some 12), some (some 15), some (some 18), some (some 23), some (some 28), some (some 230), none, none, some (some 231), none, some (some 232), some (some 233), none, some (some 234), some (some 235), some (some 236), some none] := ⟨rfl, by decide⟩
theorem rb_obX1 : rb_Ob rb_vX 1 8 [some (some 2), none] := ⟨rfl, by decide⟩
theorem rb_arX2 : rb_Ar rb_vX 2 0 240 := ⟨rfl, by decide⟩
theorem rb_obX3 : rb_Ob rb_vX 3 4 [some (some 1), none, some (some 4), none] := ⟨rfl, by decide⟩
theorem rb_obX4 : rb_Ob rb_vX 4 3 [some (some 5), some (some 6), none] := ⟨rfl, by decide⟩
theorem rb_arX5 : rb_Ar rb_vX 5 0 3 := ⟨rfl, by decide⟩
theorem rb_arX6 : rb_Ar rb_vX 6 0 24 := ⟨rfl, by decide⟩
theorem rb_obX7 : rb_Ob rb_vX 7 6 [some (some 1), none, some (some 8)] := ⟨rfl, by decide⟩
theorem rb_obX8 : rb_Ob rb_vX 8 5 [some (some 9), none, some (some 10), some (some 11), none] := ⟨rfl, by decide⟩
theorem rb_arX9 : rb_Ar rb_vX 9 0 240 := ⟨rfl, by decide⟩
theorem rb_arX10 : rb_Ar rb_vX 10 0 8 := ⟨rfl, by decide⟩
theorem rb_arX11 : rb_Ar rb_vX 11 0 64 := ⟨rfl, by decide⟩
theorem rb_obX12 : rb_Ob rb_vX 12 2 [some (some 1), none, some (some 13)] := ⟨rfl, by decide⟩
theorem rb_obX13 : rb_Ob rb_vX 13 1 [some (some 14), none] := ⟨rfl, by decide⟩
theorem rb_arX14 : rb_Ar rb_vX 14 0 48 := ⟨rfl, by decide⟩
theorem rb_obX15 : rb_Ob rb_vX 15 3 [some (some 16), some (some 17), none] := ⟨rfl, by decide⟩
theorem rb_arX16 : rb_Ar rb_vX 16 0 3 := ⟨rfl, by decide⟩
theorem rb_arX17 : rb_Ar rb_vX 17 0 24 := ⟨rfl, by decide⟩
theorem rb_obX28 : rb_Ob rb_vX 28 0 [some (some 29), none, none] := ⟨rfl, by decide⟩
theorem rb_rrX29 : rb_Rr rb_vX 29 2 40 (fun i => 30 + 5 * i) := ⟨rfl, by decide⟩
theorem rb_rrX230 : rb_Rr rb_vX 230 3 4 (fun i => 240 + 4 * i) := ⟨rfl, by decide⟩
theorem rb_rrX231 : rb_Rr rb_vX 231 4 6 (fun i => 256 + 2 * i) := ⟨rfl, by decide⟩
theorem rb_arX232 : rb_Ar rb_vX 232 0 5 := ⟨rfl, by decide⟩
theorem rb_arX233 : rb_Ar rb_vX 233 0 10 := ⟨rfl, by decide⟩
theorem rb_rrX234 : rb_Rr rb_vX 234 2 9 (fun i => 268 + 5 * i) := ⟨rfl, by decide⟩
theorem rb_arX235 : rb_Ar rb_vX 235 0 48 := ⟨rfl, by decide⟩
theorem rb_obX236 : rb_Ob rb_vX 236 9 [none, some (some 237), some (some 238), some (some 239)] := ⟨rfl, by decide⟩
theorem rb_arX237 : rb_Ar rb_vX 237 0 8 := ⟨rfl, by decide⟩
theorem rb_arX238 : rb_Ar rb_vX 238 0 8 := ⟨rfl, by decide⟩
theorem rb_arX239 : rb_Ar rb_vX 239 0 8 := ⟨rfl, by decide⟩
theorem rb_obX240 : rb_Ob rb_vX 240 5 [some (some 241), none, some (some 242), some (some 243), none] := ⟨rfl, by decide⟩
theorem rb_arX241 : rb_Ar rb_vX 241 0 240 := ⟨rfl, by decide⟩
theorem rb_arX242 : rb_Ar rb_vX 242 0 8 := ⟨rfl, by decide⟩
theorem rb_arX243 : rb_Ar rb_vX 243 0 64 := ⟨rfl, by decide⟩
theorem rb_obX244 : rb_Ob rb_vX 244 5 [some (some 245), none, some (some 246), some (some 247), none] := ⟨rfl, by decide⟩
theorem rb_arX245 : rb_Ar rb_vX 245 0 240 := ⟨rfl, by decide⟩
theorem rb_arX246 : rb_Ar rb_vX 246 0 8 := ⟨rfl, by decide⟩
theorem rb_arX247 : rb_Ar rb_vX 247 0 64 := ⟨rfl, by decide⟩
theorem rb_obX248 : rb_Ob rb_vX 248 5 [some (some 249), none, some (some 250), some (some 251), none] := ⟨rfl, by decide⟩
theorem rb_arX249 : rb_Ar rb_vX 249 0 240 := ⟨rfl, by decide⟩
theorem rb_arX250 : rb_Ar rb_vX 250 0 8 := ⟨rfl, by decide⟩
theorem rb_arX251 : rb_Ar rb_vX 251 0 64 := ⟨rfl, by decide⟩
theorem rb_obX252 : rb_Ob rb_vX 252 5 [some (some 253), none, some (some 254), some (some 255), none] := ⟨rfl, by decide⟩
theorem rb_arX253 : rb_Ar rb_vX 253 0 240 := ⟨rfl, by decide⟩
theorem rb_arX254 : rb_Ar rb_vX 254 0 8 := ⟨rfl, by decide⟩
theorem rb_arX255 : rb_Ar rb_vX 255 0 64 := ⟨rfl, by decide⟩
theorem rb_obX256 : rb_Ob rb_vX 256 1 [some (some 257), none] := ⟨rfl, by decide⟩
theorem rb_arX257 : rb_Ar rb_vX 257 0 48 := ⟨rfl, by decide⟩
theorem rb_obX258 : rb_Ob rb_vX 258 1 [some (some 259), none] := ⟨rfl, by decide⟩
theorem rb_arX259 : rb_Ar rb_vX 259 0 48 := ⟨rfl, by decide⟩
theorem rb_obX260 : rb_Ob rb_vX 260 1 [some (some 261), none] := ⟨rfl, by decide⟩
theorem rb_arX261 : rb_Ar rb_vX 261 0 48 := ⟨rfl, by decide⟩
theorem rb_obX262 : rb_Ob rb_vX 262 1 [some (some 263), none] := ⟨rfl, by decide⟩
theorem rb_arX263 : rb_Ar rb_vX 263 0 48 := ⟨rfl, by decide⟩
theorem rb_obX264 : rb_Ob rb_vX 264 1 [some (some 265), none] := ⟨rfl, by decide⟩
theorem rb_arX265 : rb_Ar rb_vX 265 0 48 := ⟨rfl, by decide⟩
theorem rb_obX266 : rb_Ob rb_vX 266 1 [some (some 267), none] := ⟨rfl, by decide⟩
theorem rb_arX267 : rb_Ar rb_vX 267 0 48 := ⟨rfl, by decide⟩
theorem rb_obM0 : rb_Ob rb_vM 0 11 [none, some (some 1), none, none, none, none, some (some 2), some (some 3), some (some 4), some (some 5), some (some 6), some (some 7), some (some 8), none, none, some (some 9), some (some 10), some (some 11), some (some 12), none, some (some 13), some (some 14), none, some (some 15), some (some 16), none, none, some (some 17), some (some 18), none, some (some 19), some (some 20), some (some 21), none, some (some 22), none, some none, some (some 23), some (some 24), some (some 25), some (some 26), some (some 27), some (some 28), some (some 29), some (some 30), some (some 31), some (some 32), none, some (some 33), none] := ⟨rfl, by decide⟩
theorem rb_arM1 : rb_Ar rb_vM 1 0 240 := ⟨rfl, by decide⟩
theorem rb_arM2 : rb_Ar rb_vM 2 0 2600 := ⟨rfl, by decide⟩
theorem rb_arM3 : rb_Ar rb_vM 3 0 2600 := ⟨rfl, by decide⟩
theorem rb_arM4 : rb_Ar rb_vM 4 0 5 := ⟨rfl, by decide⟩
theorem rb_arM5 : rb_Ar rb_vM 5 0 5 := ⟨rfl, by decide⟩
theorem rb_arM6 : rb_Ar rb_vM 6 0 700 := ⟨rfl, by decide⟩
theorem rb_arM7 : rb_Ar rb_vM 7 0 700 := ⟨rfl, by decide⟩
theorem rb_arM8 : rb_Ar rb_vM 8 0 700 := ⟨rfl, by decide⟩
theorem rb_arM9 : rb_Ar rb_vM 9 0 6 := ⟨rfl, by decide⟩
theorem rb_arM10 : rb_Ar rb_vM 10 0 80 := ⟨rfl, by decide⟩
theorem rb_arM11 : rb_Ar rb_vM 11 0 3 := ⟨rfl, by decide⟩
theorem rb_arM12 : rb_Ar rb_vM 12 0 21 := ⟨rfl, by decide⟩
theorem rb_arM13 : rb_Ar rb_vM 13 0 3 := ⟨rfl, by decide⟩
theorem rb_arM14 : rb_Ar rb_vM 14 0 21 := ⟨rfl, by decide⟩
theorem rb_arM15 : rb_Ar rb_vM 15 0 336 := ⟨rfl, by decide⟩
theorem rb_arM16 : rb_Ar rb_vM 16 0 7 := ⟨rfl, by decide⟩
theorem rb_arM17 : rb_Ar rb_vM 17 0 398 := ⟨rfl, by decide⟩
theorem rb_arM18 : rb_Ar rb_vM 18 0 5 := ⟨rfl, by decide⟩
theorem rb_arM19 : rb_Ar rb_vM 19 0 88 := ⟨rfl, by decide⟩
theorem rb_arM20 : rb_Ar rb_vM 20 0 88 := ⟨rfl, by decide⟩
theorem rb_arM21 : rb_Ar rb_vM 21 1 88 := ⟨rfl, by decide⟩
theorem rb_arM22 : rb_Ar rb_vM 22 0 15920 := ⟨rfl, by decide⟩
theorem rb_arM23 : rb_Ar rb_vM 23 0 7 := ⟨rfl, by decide⟩
theorem rb_arM24 : rb_Ar rb_vM 24 0 48 := ⟨rfl, by decide⟩
theorem rb_arM25 : rb_Ar rb_vM 25 0 5040 := ⟨rfl, by decide⟩
theorem rb_arM26 : rb_Ar rb_vM 26 0 5040 := ⟨rfl, by decide⟩
theorem rb_arM27 : rb_Ar rb_vM 27 0 7 := ⟨rfl, by decide⟩
theorem rb_arM28 : rb_Ar rb_vM 28 0 217 := ⟨rfl, by decide⟩
theorem rb_arM29 : rb_Ar rb_vM 29 0 10 := ⟨rfl, by decide⟩
theorem rb_arM30 : rb_Ar rb_vM 30 0 10 := ⟨rfl, by decide⟩
theorem rb_arM31 : rb_Ar rb_vM 31 0 10 := ⟨rfl, by decide⟩
theorem rb_arM32 : rb_Ar rb_vM 32 1 10 := ⟨rfl, by decide⟩
theorem rb_arM33 : rb_Ar rb_vM 33 0 398 := ⟨rfl, by decide⟩
set_option maxRecDepth 20000 in
theorem rb_poAt {k : Nat} (hk : rb_isPole k) {j : Nat} (hj : j < 5) : rb_shX (k + j) = rb_poSh k j ∧ k + j < 313 := by
  rcases hk with ⟨h1, h2, h3⟩ | ⟨h1, h2, h3⟩ | ⟨h1, h2, h3⟩
  · have e : (k + j - 18) % 5 = j := by omega
    refine ⟨?_, by omega⟩
    unfold rb_shX
    rw [if_neg (by omega), if_pos (by omega), rb_poAs, e, Nat.add_sub_cancel]
  · have e : (k + j - 30) % 5 = j := by omega
    refine ⟨?_, by omega⟩
    unfold rb_shX
    rw [if_neg (by omega), if_neg (by omega), if_neg (by omega), if_pos (by omega), rb_poAs, e, Nat.add_sub_cancel]
  · have e : (k + j - 268) % 5 = j := by omega
    refine ⟨?_, by omega⟩
    unfold rb_shX
    rw [if_neg (by omega), if_neg (by omega), if_neg (by omega), if_neg (by omega), if_neg (by omega), rb_poAs, e, Nat.add_sub_cancel]
theorem rb_obPole {k : Nat} (hk : rb_isPole k) : rb_Ob rb_vX k 7 [none, none, none, none, some (some (k + 1)), some (some (k + 2)), some (some (k + 3)), some (some (k + 4))] := rb_poAt hk (j := 0) (by decide)
theorem rb_arPole1 {k : Nat} (hk : rb_isPole k) : rb_Ar rb_vX (k + 1) 0 8 := rb_poAt hk (j := 1) (by decide)
theorem rb_arPole2 {k : Nat} (hk : rb_isPole k) : rb_Ar rb_vX (k + 2) 0 8 := rb_poAt hk (j := 2) (by decide)
theorem rb_arPole3 {k : Nat} (hk : rb_isPole k) : rb_Ar rb_vX (k + 3) 0 48 := rb_poAt hk (j := 3) (by decide)
theorem rb_arPole4 {k : Nat} (hk : rb_isPole k) : rb_Ar rb_vX (k + 4) 0 60 := rb_poAt hk (j := 4) (by decide)
theorem rb_obLaw {k : Nat} (hk : rb_isLaw k) : rb_Ob rb_vX k 5 [some (some (k + 1)), none, some (some (k + 2)), some (some (k + 3)), none] := by rcases hk with rfl | rfl | rfl | rfl <;> exact ⟨rfl, by decide⟩
theorem rb_arLaw1 {k : Nat} (hk : rb_isLaw k) : rb_Ar rb_vX (k + 1) 0 240 := by rcases hk with rfl | rfl | rfl | rfl <;> exact ⟨rfl, by decide⟩
theorem rb_arLaw2 {k : Nat} (hk : rb_isLaw k) : rb_Ar rb_vX (k + 2) 0 8 := by rcases hk with rfl | rfl | rfl | rfl <;> exact ⟨rfl, by decide⟩
theorem rb_arLaw3 {k : Nat} (hk : rb_isLaw k) : rb_Ar rb_vX (k + 3) 0 64 := by rcases hk with rfl | rfl | rfl | rfl <;> exact ⟨rfl, by decide⟩
theorem rb_obFig {k : Nat} (hk : rb_isFig k) : rb_Ob rb_vX k 1 [some (some (k + 1)), none] := by rcases hk with rfl | rfl | rfl | rfl | rfl | rfl <;> exact ⟨rfl, by decide⟩
theorem rb_arFig1 {k : Nat} (hk : rb_isFig k) : rb_Ar rb_vX (k + 1) 0 48 := by rcases hk with rfl | rfl | rfl | rfl | rfl | rfl <;> exact ⟨rfl, by decide⟩
theorem rb_VokM : rb_Vok rb_vM := ⟨fun _ _ _ _ _ _ _ _ => trivial, fun _ _ _ _ _ _ => trivial⟩
theorem rb_VokX : rb_Vok rb_vX := by
  refine ⟨fun w u U H H1 hW hq h => ?_, fun w u U H hv h => ?_⟩
  · obtain ⟨h1, ⟨h2, h3, h4⟩, h5, h8, h6⟩ := h
    refine ⟨fun i hi => ⟨va_Z.moved hW.alike ((h1 i hi).1.kept hq), va_T.moved hW.alike ((h1 i hi).2.kept hq)⟩, ⟨vk_R.warm hW h2, vk_R.warm hW h3, vk_R.warm hW h4⟩, vk_S.moved hW.alike (h5.kept hq), va_Z.moved hW.alike (h8.kept hq), fun x hx => ?_⟩
    have h7 := h6 x hx
    simp only [rb_nw, List.mem_cons, List.not_mem_nil, or_false] at hx
    rcases hx with rfl | rfl | rfl | rfl | rfl | rfl | rfl | rfl <;> first | exact va_Nw.warmF hW h7 | exact va_Nw.warmM hW h7 | exact va_Nw.warmD hW h7
  · obtain ⟨h1, ⟨h2, h3, h4⟩, h5, h8, h6⟩ := h
    have ha : u.vm.Alike U.vm := by rw [hv]; exact Vm.Alike.refl _
    refine ⟨fun i hi => ⟨va_Z.moved ha (h1 i hi).1, va_T.moved ha (h1 i hi).2⟩, ⟨vk_R.same hv h2, vk_R.same hv h3, vk_R.same hv h4⟩, vk_S.moved ha h5, va_Z.moved ha h8, fun x hx => ?_⟩
    have h7 := h6 x hx
    simp only [rb_nw, List.mem_cons, List.not_mem_nil, or_false] at hx
    rcases hx with rfl | rfl | rfl | rfl | rfl | rfl | rfl | rfl <;> exact va_Nw.same rfl hv.symm h7
/-! words of the pure texts -/
def rb_FU : Nat := 100000
def rb_ib (i : Int32) (n : Nat) : Bool := decide (0 ≤ i.toInt ∧ i.toInt < n)
def rb_bz (x : Int32) : Bool := x == 0 || x == 1
def rb_lt {α β : Type} (x : α) (f : α → β) : β := f x
def rb_mx (x y : Int32) : Int32 := if x < y then y else x
def rb_mn (x y : Int32) : Int32 := if y < x then y else x
def rb_cok (sp dp n : Int32) (n0 n1 : Nat) : Bool := decide (0 ≤ sp.toInt ∧ 0 ≤ dp.toInt ∧ 0 ≤ n.toInt ∧ sp.toNatClampNeg + n.toNatClampNeg ≤ n0 ∧ dp.toNatClampNeg + n.toNatClampNeg ≤ n1)
theorem rb_ibI {i : Int32} {n : Nat} (h : rb_ib i n = true) : vp_in i n := vp_in_iff.mpr (of_decide_eq_true h)
theorem rb_ltE {α β : Type} {x : α} {f : α → β} {r : β} (h : rb_lt x f = r) : ∃ y, y = x ∧ f y = r := ⟨x, rfl, h⟩
theorem rb_gd {α : Type} {b : Bool} {x : Option α} {r : α} (h : (if b = true then x else none) = some r) : b = true ∧ x = some r := by
  cases b
  · cases h
  · exact ⟨rfl, h⟩
theorem rb_dv {α : Type} {y : Int32} {x : Option α} {r : α} (h : (if y = 0 then none else x) = some r) : ¬ y = 0 ∧ x = some r := by
  by_cases hy : y = 0
  · rw [if_pos hy] at h; cases h
  · rw [if_neg hy] at h; exact ⟨hy, h⟩
theorem rb_dvL {α : Type} {y : Int64} {x : Option α} {r : α} (h : (if y = 0 then none else x) = some r) : ¬ y = 0 ∧ x = some r := by
  by_cases hy : y = 0
  · rw [if_pos hy] at h; cases h
  · rw [if_neg hy] at h; exact ⟨hy, h⟩
theorem rb_ckI {sp dp n : Int32} {n0 n1 : Nat} (h : rb_cok sp dp n n0 n1 = true) : rb_ck sp dp n n0 n1 := by
  obtain ⟨h1, h2, h3, h4, h5⟩ := of_decide_eq_true h
  refine ⟨fun q => ?_, fun q => ?_, fun q => ?_, h4, h5⟩ <;> (have := Int32.lt_iff_toInt_lt.mp q; simp at this; omega)
theorem rb_bzC {x : Int32} (h : rb_bz x = true) : x = 0 ∨ x = 1 := by simpa [rb_bz] using h
theorem rb_bzN {x : Int32} (h : rb_bz x = true) : narrow .boolean (.int x) = .int x := by rcases rb_bzC h with rfl | rfl <;> rfl
theorem rb_bzF {x : Int32} (h : rb_bz x = true) : fits .boolean (.int x) = true := by rcases rb_bzC h with rfl | rfl <;> rfl
theorem rb_bzV {x : Int32} (h : rb_bz x = true) : vp_nar .boolean x = x := by rcases rb_bzC h with rfl | rfl <;> rfl
def rb_b1 {t1 tr : Type} (o : Option (t1)) (ff : t1 → Option tr) : Option tr := match o with
  | none => none
  | some a1 => ff a1
theorem rb_b1s {t1 tr : Type} {o : Option (t1)} {ff : t1 → Option tr} {r : tr} (hh : rb_b1 o ff = some r) : ∃ a1, o = some a1 ∧ ff a1 = some r := by
  cases o with
  | none => cases hh
  | some q => exact ⟨_, rfl, hh⟩
def rb_b2 {t1 t2 tr : Type} (o : Option (t1 × t2)) (ff : t1 → t2 → Option tr) : Option tr := match o with
  | none => none
  | some (a1, a2) => ff a1 a2
theorem rb_b2s {t1 t2 tr : Type} {o : Option (t1 × t2)} {ff : t1 → t2 → Option tr} {r : tr} (hh : rb_b2 o ff = some r) : ∃ a1 a2, o = some (a1, a2) ∧ ff a1 a2 = some r := by
  cases o with
  | none => cases hh
  | some q => exact ⟨_, _, rfl, hh⟩
def rb_b3 {t1 t2 t3 tr : Type} (o : Option (t1 × t2 × t3)) (ff : t1 → t2 → t3 → Option tr) : Option tr := match o with
  | none => none
  | some (a1, a2, a3) => ff a1 a2 a3
theorem rb_b3s {t1 t2 t3 tr : Type} {o : Option (t1 × t2 × t3)} {ff : t1 → t2 → t3 → Option tr} {r : tr} (hh : rb_b3 o ff = some r) : ∃ a1 a2 a3, o = some (a1, a2, a3) ∧ ff a1 a2 a3 = some r := by
  cases o with
  | none => cases hh
  | some q => exact ⟨_, _, _, rfl, hh⟩
def rb_b4 {t1 t2 t3 t4 tr : Type} (o : Option (t1 × t2 × t3 × t4)) (ff : t1 → t2 → t3 → t4 → Option tr) : Option tr := match o with
  | none => none
  | some (a1, a2, a3, a4) => ff a1 a2 a3 a4
theorem rb_b4s {t1 t2 t3 t4 tr : Type} {o : Option (t1 × t2 × t3 × t4)} {ff : t1 → t2 → t3 → t4 → Option tr} {r : tr} (hh : rb_b4 o ff = some r) : ∃ a1 a2 a3 a4, o = some (a1, a2, a3, a4) ∧ ff a1 a2 a3 a4 = some r := by
  cases o with
  | none => cases hh
  | some q => exact ⟨_, _, _, _, rfl, hh⟩
def rb_b5 {t1 t2 t3 t4 t5 tr : Type} (o : Option (t1 × t2 × t3 × t4 × t5)) (ff : t1 → t2 → t3 → t4 → t5 → Option tr) : Option tr := match o with
  | none => none
  | some (a1, a2, a3, a4, a5) => ff a1 a2 a3 a4 a5
theorem rb_b5s {t1 t2 t3 t4 t5 tr : Type} {o : Option (t1 × t2 × t3 × t4 × t5)} {ff : t1 → t2 → t3 → t4 → t5 → Option tr} {r : tr} (hh : rb_b5 o ff = some r) : ∃ a1 a2 a3 a4 a5, o = some (a1, a2, a3, a4, a5) ∧ ff a1 a2 a3 a4 a5 = some r := by
  cases o with
  | none => cases hh
  | some q => exact ⟨_, _, _, _, _, rfl, hh⟩
def rb_b6 {t1 t2 t3 t4 t5 t6 tr : Type} (o : Option (t1 × t2 × t3 × t4 × t5 × t6)) (ff : t1 → t2 → t3 → t4 → t5 → t6 → Option tr) : Option tr := match o with
  | none => none
  | some (a1, a2, a3, a4, a5, a6) => ff a1 a2 a3 a4 a5 a6
theorem rb_b6s {t1 t2 t3 t4 t5 t6 tr : Type} {o : Option (t1 × t2 × t3 × t4 × t5 × t6)} {ff : t1 → t2 → t3 → t4 → t5 → t6 → Option tr} {r : tr} (hh : rb_b6 o ff = some r) : ∃ a1 a2 a3 a4 a5 a6, o = some (a1, a2, a3, a4, a5, a6) ∧ ff a1 a2 a3 a4 a5 a6 = some r := by
  cases o with
  | none => cases hh
  | some q => exact ⟨_, _, _, _, _, _, rfl, hh⟩
def rb_b7 {t1 t2 t3 t4 t5 t6 t7 tr : Type} (o : Option (t1 × t2 × t3 × t4 × t5 × t6 × t7)) (ff : t1 → t2 → t3 → t4 → t5 → t6 → t7 → Option tr) : Option tr := match o with
  | none => none
  | some (a1, a2, a3, a4, a5, a6, a7) => ff a1 a2 a3 a4 a5 a6 a7
theorem rb_b7s {t1 t2 t3 t4 t5 t6 t7 tr : Type} {o : Option (t1 × t2 × t3 × t4 × t5 × t6 × t7)} {ff : t1 → t2 → t3 → t4 → t5 → t6 → t7 → Option tr} {r : tr} (hh : rb_b7 o ff = some r) : ∃ a1 a2 a3 a4 a5 a6 a7, o = some (a1, a2, a3, a4, a5, a6, a7) ∧ ff a1 a2 a3 a4 a5 a6 a7 = some r := by
  cases o with
  | none => cases hh
  | some q => exact ⟨_, _, _, _, _, _, _, rfl, hh⟩
def rb_b8 {t1 t2 t3 t4 t5 t6 t7 t8 tr : Type} (o : Option (t1 × t2 × t3 × t4 × t5 × t6 × t7 × t8)) (ff : t1 → t2 → t3 → t4 → t5 → t6 → t7 → t8 → Option tr) : Option tr := match o with
  | none => none
  | some (a1, a2, a3, a4, a5, a6, a7, a8) => ff a1 a2 a3 a4 a5 a6 a7 a8
theorem rb_b8s {t1 t2 t3 t4 t5 t6 t7 t8 tr : Type} {o : Option (t1 × t2 × t3 × t4 × t5 × t6 × t7 × t8)} {ff : t1 → t2 → t3 → t4 → t5 → t6 → t7 → t8 → Option tr} {r : tr} (hh : rb_b8 o ff = some r) : ∃ a1 a2 a3 a4 a5 a6 a7 a8, o = some (a1, a2, a3, a4, a5, a6, a7, a8) ∧ ff a1 a2 a3 a4 a5 a6 a7 a8 = some r := by
  cases o with
  | none => cases hh
  | some q => exact ⟨_, _, _, _, _, _, _, _, rfl, hh⟩
def rb_b9 {t1 t2 t3 t4 t5 t6 t7 t8 t9 tr : Type} (o : Option (t1 × t2 × t3 × t4 × t5 × t6 × t7 × t8 × t9)) (ff : t1 → t2 → t3 → t4 → t5 → t6 → t7 → t8 → t9 → Option tr) : Option tr := match o with
  | none => none
  | some (a1, a2, a3, a4, a5, a6, a7, a8, a9) => ff a1 a2 a3 a4 a5 a6 a7 a8 a9
theorem rb_b9s {t1 t2 t3 t4 t5 t6 t7 t8 t9 tr : Type} {o : Option (t1 × t2 × t3 × t4 × t5 × t6 × t7 × t8 × t9)} {ff : t1 → t2 → t3 → t4 → t5 → t6 → t7 → t8 → t9 → Option tr} {r : tr} (hh : rb_b9 o ff = some r) : ∃ a1 a2 a3 a4 a5 a6 a7 a8 a9, o = some (a1, a2, a3, a4, a5, a6, a7, a8, a9) ∧ ff a1 a2 a3 a4 a5 a6 a7 a8 a9 = some r := by
  cases o with
  | none => cases hh
  | some q => exact ⟨_, _, _, _, _, _, _, _, _, rfl, hh⟩
section RBNM
variable {z : rb_Z} {v : rb_Sv} {w : rb_Wd} {nL : Nat} {Q : State → Prop} {pc : Nat} {lv : List (Nat × Value)} {st : List Value} {σ : rb_St}
theorem rb_nmS {s1 : rb_St} (e : s1 = σ) (k : rb_At z v w nL Q pc lv st s1) : rb_At z v w nL Q pc lv st σ := e ▸ k
theorem rb_nmI {x y : Int32} (e : y = x) (k : rb_At z v w nL Q pc lv (.int y :: st) σ) : rb_At z v w nL Q pc lv (.int x :: st) σ := e ▸ k
theorem rb_nmJ {x y : Int64} (e : y = x) (k : rb_At z v w nL Q pc lv (.long y :: st) σ) : rb_At z v w nL Q pc lv (.long x :: st) σ := e ▸ k
theorem rb_nmR {x y : Nat} (e : y = x) (k : rb_At z v w nL Q pc lv (.ref (rb_ad w y) :: st) σ) : rb_At z v w nL Q pc lv (.ref (rb_ad w x) :: st) σ := e ▸ k
end RBNM
theorem rb_ibN {i : Int32} {n : Nat} (h : rb_ib i n = true) : i.toNatClampNeg < n := by
  obtain ⟨h1, h2⟩ := of_decide_eq_true h
  show i.toInt.toNat < n
  omega
set_option maxRecDepth 20000 in
theorem rb_isLaw_of {i : Int32} (h : rb_ib i 4 = true) : rb_isLaw (240 + 4 * i.toNatClampNeg) := by have := rb_ibN h; unfold rb_isLaw; omega
set_option maxRecDepth 20000 in
theorem rb_isFig_of {i : Int32} (h : rb_ib i 6 = true) : rb_isFig (256 + 2 * i.toNatClampNeg) := by have := rb_ibN h; unfold rb_isFig; omega
set_option maxRecDepth 20000 in
theorem rb_isPole_29 {i : Int32} (h : rb_ib i 40 = true) : rb_isPole (30 + 5 * i.toNatClampNeg) := by have := rb_ibN h; unfold rb_isPole; omega
set_option maxRecDepth 20000 in
theorem rb_isPole_234 {i : Int32} (h : rb_ib i 9 = true) : rb_isPole (268 + 5 * i.toNatClampNeg) := by have := rb_ibN h; unfold rb_isPole; omega
theorem rb_isPole18 : rb_isPole 18 := by unfold rb_isPole; decide
theorem rb_isPole23 : rb_isPole 23 := by unfold rb_isPole; decide
theorem rb_uX0 : ∀ x ∈ wsX00, x ∈ rb_tbl := rb_us inX0 (by decide +kernel)
theorem rb_uX1 : ∀ x ∈ wsX10, x ∈ rb_tbl := rb_us inX1 (by decide +kernel)
theorem rb_uX2 : ∀ x ∈ wsX20, x ∈ rb_tbl := rb_us inX2 (by decide +kernel)
theorem rb_uX3 : ∀ x ∈ wsX30, x ∈ rb_tbl := rb_us inX3 (by decide +kernel)
theorem rb_uX4 : ∀ x ∈ wsX40, x ∈ rb_tbl := rb_us inX4 (by decide +kernel)
theorem rb_uX5 : ∀ x ∈ wsX50, x ∈ rb_tbl := rb_us inX5 (by decide +kernel)
theorem rb_uX6 : ∀ x ∈ wsX60, x ∈ rb_tbl := rb_us inX6 (by decide +kernel)
theorem rb_uX7 : ∀ x ∈ wsX70, x ∈ rb_tbl := rb_us inX7 (by decide +kernel)
theorem rb_uX9 : ∀ x ∈ wsX90, x ∈ rb_tbl := rb_us inX9 (by decide +kernel)
theorem rb_uX10 : ∀ x ∈ wsX100, x ∈ rb_tbl := rb_us inX10 (by decide +kernel)
theorem rb_uX11 : ∀ x ∈ wsX110, x ∈ rb_tbl := rb_us inX11 (by decide +kernel)
theorem rb_uX12 : ∀ x ∈ wsX120, x ∈ rb_tbl := rb_us inX12 (by decide +kernel)
