/-! questions: lag, breakAt, value, slope, step, count -/
theorem lz_i {z : Int} (h : inI z) : (lz z).toInt32 = iz z := by
  obtain ⟨a, b⟩ := h
  rw [l2i_iz, lz_toInt ⟨by omega, by omega⟩]
theorem l32 (x : Int32) : x.toInt64.toInt32 = x := by rw [l2i_iz, i2l, iz_of]
section
variable {j : Nat} {c m : RT} {G : GH}
end
