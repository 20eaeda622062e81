/-! NUMBERS AS WORDS: literals; words for a discharged simp -/
theorem rb_l0 : (0 : Int32) = nI 0 := rfl
theorem rb_l1 : (1 : Int32) = nI 1 := rfl
theorem rb_l2 : (2 : Int32) = nI 2 := rfl
theorem rb_l3 : (3 : Int32) = nI 3 := rfl
theorem rb_l4 : (4 : Int32) = nI 4 := rfl
theorem rb_l5 : (5 : Int32) = nI 5 := rfl
theorem rb_l6 : (6 : Int32) = nI 6 := rfl
theorem rb_l7 : (7 : Int32) = nI 7 := rfl
theorem rb_l8 : (8 : Int32) = nI 8 := rfl
theorem rb_l9 : (9 : Int32) = nI 9 := rfl
theorem rb_l10 : (10 : Int32) = nI 10 := rfl
theorem rb_l11 : (11 : Int32) = nI 11 := rfl
theorem rb_l12 : (12 : Int32) = nI 12 := rfl
theorem rb_l13 : (13 : Int32) = nI 13 := rfl
theorem rb_l14 : (14 : Int32) = nI 14 := rfl
theorem rb_l15 : (15 : Int32) = nI 15 := rfl
theorem rb_l16 : (16 : Int32) = nI 16 := rfl
theorem rb_l17 : (17 : Int32) = nI 17 := rfl
theorem rb_l18 : (18 : Int32) = nI 18 := rfl
theorem rb_l19 : (19 : Int32) = nI 19 := rfl
theorem rb_l20 : (20 : Int32) = nI 20 := rfl
theorem rb_l21 : (21 : Int32) = nI 21 := rfl
theorem rb_l22 : (22 : Int32) = nI 22 := rfl
theorem rb_l23 : (23 : Int32) = nI 23 := rfl
theorem rb_l24 : (24 : Int32) = nI 24 := rfl
theorem rb_l25 : (25 : Int32) = nI 25 := rfl
theorem rb_l26 : (26 : Int32) = nI 26 := rfl
theorem rb_l27 : (27 : Int32) = nI 27 := rfl
theorem rb_l28 : (28 : Int32) = nI 28 := rfl
theorem rb_l29 : (29 : Int32) = nI 29 := rfl
theorem rb_l30 : (30 : Int32) = nI 30 := rfl
theorem rb_l31 : (31 : Int32) = nI 31 := rfl
theorem rb_l32 : (32 : Int32) = nI 32 := rfl
theorem rb_l33 : (33 : Int32) = nI 33 := rfl
theorem rb_l34 : (34 : Int32) = nI 34 := rfl
theorem rb_l35 : (35 : Int32) = nI 35 := rfl
theorem rb_l36 : (36 : Int32) = nI 36 := rfl
theorem rb_l37 : (37 : Int32) = nI 37 := rfl
theorem rb_l38 : (38 : Int32) = nI 38 := rfl
theorem rb_l39 : (39 : Int32) = nI 39 := rfl
theorem rb_l40 : (40 : Int32) = nI 40 := rfl
theorem rb_l41 : (41 : Int32) = nI 41 := rfl
theorem rb_l42 : (42 : Int32) = nI 42 := rfl
theorem rb_l43 : (43 : Int32) = nI 43 := rfl
theorem rb_l44 : (44 : Int32) = nI 44 := rfl
theorem rb_l45 : (45 : Int32) = nI 45 := rfl
theorem rb_l46 : (46 : Int32) = nI 46 := rfl
theorem rb_l47 : (47 : Int32) = nI 47 := rfl
theorem rb_l48 : (48 : Int32) = nI 48 := rfl
theorem rb_l49 : (49 : Int32) = nI 49 := rfl
theorem rb_l50 : (50 : Int32) = nI 50 := rfl
theorem rb_l51 : (51 : Int32) = nI 51 := rfl
theorem rb_l52 : (52 : Int32) = nI 52 := rfl
theorem rb_l53 : (53 : Int32) = nI 53 := rfl
theorem rb_l54 : (54 : Int32) = nI 54 := rfl
theorem rb_l55 : (55 : Int32) = nI 55 := rfl
theorem rb_l56 : (56 : Int32) = nI 56 := rfl
theorem rb_l57 : (57 : Int32) = nI 57 := rfl
theorem rb_l58 : (58 : Int32) = nI 58 := rfl
theorem rb_l59 : (59 : Int32) = nI 59 := rfl
theorem rb_l60 : (60 : Int32) = nI 60 := rfl
theorem rb_l61 : (61 : Int32) = nI 61 := rfl
theorem rb_l62 : (62 : Int32) = nI 62 := rfl
theorem rb_l63 : (63 : Int32) = nI 63 := rfl
theorem rb_l64 : (64 : Int32) = nI 64 := rfl
theorem rb_l80 : (80 : Int32) = nI 80 := rfl
theorem rb_l88 : (88 : Int32) = nI 88 := rfl
theorem rb_l97 : (97 : Int32) = nI 97 := rfl
theorem rb_l98 : (98 : Int32) = nI 98 := rfl
theorem rb_l99 : (99 : Int32) = nI 99 := rfl
theorem rb_l100 : (100 : Int32) = nI 100 := rfl
theorem rb_l101 : (101 : Int32) = nI 101 := rfl
theorem rb_l104 : (104 : Int32) = nI 104 := rfl
theorem rb_l107 : (107 : Int32) = nI 107 := rfl
theorem rb_l108 : (108 : Int32) = nI 108 := rfl
theorem rb_l110 : (110 : Int32) = nI 110 := rfl
theorem rb_l111 : (111 : Int32) = nI 111 := rfl
theorem rb_l112 : (112 : Int32) = nI 112 := rfl
theorem rb_l115 : (115 : Int32) = nI 115 := rfl
theorem rb_l116 : (116 : Int32) = nI 116 := rfl
theorem rb_l117 : (117 : Int32) = nI 117 := rfl
theorem rb_l119 : (119 : Int32) = nI 119 := rfl
theorem rb_l121 : (121 : Int32) = nI 121 := rfl
theorem rb_l124 : (124 : Int32) = nI 124 := rfl
theorem rb_l140 : (140 : Int32) = nI 140 := rfl
theorem rb_l180 : (180 : Int32) = nI 180 := rfl
theorem rb_l215 : (215 : Int32) = nI 215 := rfl
theorem rb_l216 : (216 : Int32) = nI 216 := rfl
theorem rb_l217 : (217 : Int32) = nI 217 := rfl
theorem rb_l218 : (218 : Int32) = nI 218 := rfl
theorem rb_l240 : (240 : Int32) = nI 240 := rfl
theorem rb_l255 : (255 : Int32) = nI 255 := rfl
theorem rb_l336 : (336 : Int32) = nI 336 := rfl
theorem rb_l398 : (398 : Int32) = nI 398 := rfl
theorem rb_l520 : (520 : Int32) = nI 520 := rfl
theorem rb_l700 : (700 : Int32) = nI 700 := rfl
theorem rb_l999 : (999 : Int32) = nI 999 := rfl
theorem rb_l1024 : (1024 : Int32) = nI 1024 := rfl
theorem rb_l2600 : (2600 : Int32) = nI 2600 := rfl
theorem rb_l5040 : (5040 : Int32) = nI 5040 := rfl
theorem rb_l15920 : (15920 : Int32) = nI 15920 := rfl
theorem rb_b4_some {t1 t2 t3 t4 tr : Type} (a : t1) (b : t2) (c : t3) (d : t4) (f : t1 → t2 → t3 → t4 → Option tr) : rb_b4 (some (a, b, c, d)) f = f a b c d := rfl
theorem rb_b5_some {t1 t2 t3 t4 t5 tr : Type} (a : t1) (b : t2) (c : t3) (d : t4) (e : t5) (f : t1 → t2 → t3 → t4 → t5 → Option tr) : rb_b5 (some (a, b, c, d, e)) f = f a b c d e := rfl
theorem rb_dv2 {a d : Nat} (ha : a < 2 ^ 31) (h0 : 0 < d) (hd : d < 2 ^ 31) : nI a / nI d = nI (a / d) := pk_div ha h0 hd
theorem rb_sm {s : Nat} (hs : s < 32) : nI s &&& nI 31 = nI s := by
  refine (rb_mask s 5).trans ?_
  rw [Nat.mod_eq_of_lt (by omega)]
theorem rb_sr {a s : Nat} (ha : a < 2 ^ 31) (hs : s < 32) : nI a >>> nI s = nI (a / 2 ^ s) := by
  have := rb_shr ha hs
  rw [show (31 : Int32) = nI 31 from rfl, rb_sm hs] at this
  exact this
theorem rb_sll {a s : Nat} (hs : s < 32) : nI a <<< nI s = nI (a * 2 ^ s) := by
  have := rb_shl (a := a) hs
  rw [show (31 : Int32) = nI 31 from rfl, rb_sm hs] at this
  exact this
theorem rb_neg1 {a : Nat} (ha : a < 2 ^ 31) : ¬ nI a = -1 := by
  intro e
  have := congrArg Int32.toInt e
  rw [nI_toInt ha] at this
  have h2 : (-1 : Int32).toInt = -1 := by decide
  omega
theorem rb_lt0 {a : Nat} (ha : a < 2 ^ 31) : ¬ nI a < 0 := nI_pos ha
theorem rb_mn_nI {a b : Nat} (ha : a < 2 ^ 31) (hb : b < 2 ^ 31) : rb_mn (nI a) (nI b) = nI (min a b) := by
  unfold rb_mn
  by_cases h : b < a
  · rw [if_pos (nI_lt h ha)]; congr 1; omega
  · rw [if_neg (nI_nlt (by omega) hb)]; congr 1; omega
/-- what stays -/
def rb_fr (ch : Nat → Nat → Prop) (σ σ' : rb_St) : Prop := (∀ c i, ¬ ch c i → σ'.1 c i = σ.1 c i) ∧ σ'.2 = σ.2
theorem rb_fr.rf {ch : Nat → Nat → Prop} {σ : rb_St} : rb_fr ch σ σ := ⟨fun _ _ _ => rfl, rfl⟩
theorem rb_fr.tr {ch : Nat → Nat → Prop} {σ σ' σ'' : rb_St} (h : rb_fr ch σ σ') (h2 : rb_fr ch σ' σ'') : rb_fr ch σ σ'' := ⟨fun c i hc => (h2.1 c i hc).trans (h.1 c i hc), h2.2.trans h.2⟩
theorem rb_fr.mo {ch ch' : Nat → Nat → Prop} {σ σ' : rb_St} (h : rb_fr ch σ σ') (hh : ∀ c i, ch c i → ch' c i) : rb_fr ch' σ σ' := ⟨fun c i hc => h.1 c i (fun q => hc (hh c i q)), h.2⟩
theorem rb_fr.sI {ch : Nat → Nat → Prop} {σ : rb_St} {k j : Nat} {x : Int32} (h : ch k j) : rb_fr ch σ (rb_sI σ k j x) := ⟨fun c i hc => rb_sI_ne σ k j x c i (by
  by_cases h1 : c = k
  · by_cases h2 : i = j
    · subst h1 h2; exact absurd h hc
    · exact Or.inr h2
  · exact Or.inl h1), rfl⟩
theorem rb_fr.sI' {ch : Nat → Nat → Prop} {σ σ' : rb_St} {k j : Nat} {x : Int32} (h0 : rb_fr ch σ σ') (h : ch k j) : rb_fr ch σ (rb_sI σ' k j x) := h0.tr (rb_fr.sI h)
theorem rb_fr.cp {ch : Nat → Nat → Prop} {σ : rb_St} {a b sp dp n : Nat} (h : ∀ i, dp ≤ i → i < dp + n → ch b i) : rb_fr ch σ (rb_cp σ a b sp dp n) := ⟨fun c i hc => by
  rw [rb_cp_at, if_neg]
  rintro ⟨rfl, h1, h2⟩
  exact hc (h i h1 h2), rfl⟩
theorem rb_sIg (σ : rb_St) (k i : Nat) (x : Int32) (a b : Nat) (h : ¬ (a = k ∧ b = i)) : (rb_sI σ k i x).1 a b = σ.1 a b := by rw [rb_sI_at, if_neg h]
