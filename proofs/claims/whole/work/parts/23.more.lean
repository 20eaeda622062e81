def rb_mxJ (x y : Int64) : Int64 := if y < x then x else y
def rb_mnJ (x y : Int64) : Int64 := if y < x then y else x
section RBB
variable {z : rb_Z} {v : rb_Sv} {w : rb_Wd} {own : String} {cc : ByteArray} {nL : Nat} {h : Nat} {pc : Nat} {lv : List (Nat × Value)} {σ : rb_St}
theorem rb_bret (hC : rb_Cx z v w own cc nL (some .byte) h) {x : Int32} (hn : narrow .byte (.int x) = .int x) (hd : decode cc pc = .ok (.ireturn, 1)) : rb_At z v w nL (rb_Q z v w (some (.int x)) σ) pc lv [.int x] σ := by
  intro H locs ls hP hS hl
  have hlocks := hC.2.2.2.2.2.2.1
  exact W.zret (v := x) hC.1 hC.2.1 hC.2.2.1 hn (fun t ht hW => ⟨rfl, by rw [ht]; exact hP, hS.F ht⟩) hS.2.2 hd hlocks
end RBB
