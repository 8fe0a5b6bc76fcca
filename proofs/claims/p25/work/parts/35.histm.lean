/-! the histories of the reference -/
theorem p1 {u : Nat} (h : u ≠ 0) : nI u - 1 = nI (u - 1) := by rw [show (1 : Int32) = nI 1 from rfl, pk_sub (by omega)]
