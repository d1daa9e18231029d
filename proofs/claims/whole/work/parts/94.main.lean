theorem pure_main (xs : Nat → Int32) (L : Nat) (hL : L ≤ 3072) : ∃ S', G_L_law_18 xs L 3000 0 S_12 = some (1, S') := by
  have := law_all xs L hL 3000 0 S_12 Inv.start (by omega) (by omega)
  rw [show nI 0 = 0 from rfl] at this
  exact this
