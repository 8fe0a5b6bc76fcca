/-! the reference looks for the fault: numbers, names, signs ahead -/
theorem dgN_s {L : Nat → Nat} {m k : Nat} : dgN L (m + 1) k = if isD (L k) then dgN L m (k + 1) + 1 else 0 := rfl
theorem nam_pos {L : Nat → Nat} {k : Nat} : (namP L k).2.1 ≤ k + 4 := by
  unfold namP
  repeat' split
  all_goals (dsimp only; omega)
theorem num_pos {L : Nat → Nat} {k : Nat} : (numP L k).2.1 ≤ k + 8 := by
  have e1 := dgN_le (L := L) 4 k
  have e2 := dgN_le (L := L) 3 (k + dgN L 4 k + 1)
  unfold numP
  repeat' split
  all_goals (dsimp only; omega)
