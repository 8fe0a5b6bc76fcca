/-! solve -/
theorem allN_congr {P : PB} {T : Nat → Nat} {nb : Nat} {E E' : Nat → Nat} : ∀ k, (∀ i, i < k → E i = E' i) → allN P T nb E k = allN P T nb E' k := by
  intro k
  induction k with
  | zero => intro _; rfl
  | succ k ih =>
    intro h
    unfold allN
    rw [ih (fun i hi => h i (by omega)), h k (by omega)]
