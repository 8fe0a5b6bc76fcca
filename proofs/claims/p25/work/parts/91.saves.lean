/-! undo, save, restore -/
def Same1M (m y : RT) : Prop := (∀ j, j ≠ 1 → y.1 j = m.1 j) ∧ y.2 = m.2
theorem sl_arg {a0 : Int32} (h0 : ¬ a0 < 0) (h2 : a0 < nI 2) : ∃ i : Nat, i < 2 ∧ a0 = nI i ∧ b2 (wi a0 0 1) ≠ 0 := by
  obtain ⟨i, hi, rfl⟩ := nI_of h0
  have h := (nI_ltI (by omega) (by decide)).mp h2
  refine ⟨i, h, rfl, ?_⟩
  have : wi (nI i) 0 1 = true := wi_eq.mpr (by rw [nI_int (by omega), show (0 : Int32).toInt = 0 by decide, show (1 : Int32).toInt = 1 by decide]; omega)
  rw [this]; decide
theorem sl_bad {a0 : Int32} (h : a0 < 0 ∨ ¬ a0 < nI 2) : b2 (wi a0 0 1) = 0 := by
  refine b2_0.mpr ?_
  cases e : wi a0 0 1 with
  | false => rfl
  | true =>
    have hb := wi_eq.mp e
    rw [show (0 : Int32).toInt = 0 by decide, show (1 : Int32).toInt = 1 by decide] at hb
    rw [i_lt, i_lt, nI_int (by decide)] at h
    simp only [Int32.toInt_zero] at h
    omega
theorem va_same (α : Type) (f : Nat → α) (i : Nat) (x : α) : va_up f i x i = x := by simp [va_up]
theorem va_ne (α : Type) (f : Nat → α) (i k : Nat) (x : α) (hk : k ≠ i) : va_up f i x k = f k := by simp [va_up, hk]
