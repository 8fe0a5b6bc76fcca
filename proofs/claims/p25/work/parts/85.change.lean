/-! changes -/
theorem nI_iz {n : Nat} (h : n < 2147483648) : nI n = iz (n : Int) := by apply i_ext; rw [nI_int h, iz_toInt ⟨by omega, by omega⟩]
def updI (f : Nat → Int) (k : Nat) (x : Int) : Nat → Int := fun j => if j = k then x else f j
