/-! the operands of a code as bits, and the delays in them -/
def opB (c : List (Nat × Nat)) : Prop := ∀ e, e ∈ c → e.1 = 1 → e.2 < 22
def obS (b : Nat) (e : Nat × Nat) : Nat := if e.1 = 1 then b ||| 2 ^ e.2 else b
def obN (c : List (Nat × Nat)) : Nat := c.foldl obS 0
theorem obN_gen {c : List (Nat × Nat)} : ∀ b p, (c.foldl obS b).testBit p = true ↔ b.testBit p = true ∨ ∃ e, e ∈ c ∧ e.1 = 1 ∧ e.2 = p := by
  induction c with
  | nil => intro b p; exact ⟨Or.inl, fun w => w.elim id (fun ⟨e, h, _⟩ => absurd h (by simp))⟩
  | cons a r ih =>
    intro b p
    rw [List.foldl_cons, ih]
    unfold obS
    by_cases q : a.1 = 1
    · rw [if_pos q, Nat.testBit_or, Nat.testBit_two_pow]
      simp only [Bool.or_eq_true, decide_eq_true_eq]
      constructor
      · rintro ((w | w) | ⟨e, h1, h2⟩)
        · exact Or.inl w
        · exact Or.inr ⟨a, List.mem_cons_self .., q, w⟩
        · exact Or.inr ⟨e, List.mem_cons_of_mem _ h1, h2⟩
      · rintro (w | ⟨e, h1, h2, h3⟩)
        · exact Or.inl (Or.inl w)
        · rcases List.mem_cons.mp h1 with w | w
          · subst w; exact Or.inl (Or.inr h3)
          · exact Or.inr ⟨e, w, h2, h3⟩
    · rw [if_neg q]
      constructor
      · rintro (w | ⟨e, h1, h2⟩)
        · exact Or.inl w
        · exact Or.inr ⟨e, List.mem_cons_of_mem _ h1, h2⟩
      · rintro (w | ⟨e, h1, h2, h3⟩)
        · exact Or.inl w
        · rcases List.mem_cons.mp h1 with w | w
          · subst w; exact absurd h2 q
          · exact Or.inr ⟨e, w, h2, h3⟩
theorem obN_bit {c : List (Nat × Nat)} {p : Nat} : (obN c).testBit p = true ↔ ∃ e, e ∈ c ∧ e.1 = 1 ∧ e.2 = p := by
  unfold obN
  rw [obN_gen, Nat.zero_testBit]
  exact ⟨fun w => w.elim (fun w => absurd w (by decide)) id, Or.inr⟩
theorem shl_1 : ∀ p, p < 22 → ((1 : Int32) <<< (nI p &&& 31)) = nI (2 ^ p) := by decide +kernel
theorem obI_gen {c : List (Nat × Nat)} (h : opB c) : ∀ b, c.foldl bitI (nI b) = nI (c.foldl obS b) := by
  induction c with
  | nil => intro b; rfl
  | cons a r ih =>
    intro b
    rw [List.foldl_cons, List.foldl_cons]
    have hr : opB r := fun e he => h e (List.mem_cons_of_mem _ he)
    by_cases q : a.1 = 1
    · have e1 : bitI (nI b) a = nI (b ||| 2 ^ a.2) := by
        unfold bitI
        rw [if_pos q, shl_1 a.2 (h a (List.mem_cons_self ..) q), or_nI]
      rw [e1, ih hr]; unfold obS; rw [if_pos q]
    · have e1 : bitI (nI b) a = nI b := by unfold bitI; rw [if_neg q]
      rw [e1, ih hr]; unfold obS; rw [if_neg q]
theorem obI_N {c : List (Nat × Nat)} (h : opB c) : obI c = nI (obN c) := obI_gen h 0
