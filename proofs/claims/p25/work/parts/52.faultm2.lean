/-! the reference looks for the fault: numbers, names, signs ahead -/
theorem dgN_s {L : Nat → Nat} {m k : Nat} : dgN L (m + 1) k = if isD (L k) then dgN L m (k + 1) + 1 else 0 := rfl
