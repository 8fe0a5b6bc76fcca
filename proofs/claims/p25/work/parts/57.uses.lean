/-! the delays that a text uses, and those of its code -/
def usT (L : Nat → Nat) (a b d : Nat) : Prop := ∃ k, a ≤ k ∧ k < b ∧ L k = 64 ∧ L (k + 1) = 48 + d
def opD (p d : Nat) : Prop := (4 + d * 3 ≤ p ∧ p < 7 + d * 3) ∨ (13 + d * 3 ≤ p ∧ p < 16 + d * 3)
def usC (c : List (Nat × Nat)) (d : Nat) : Prop := ∃ e, e ∈ c ∧ e.1 = 1 ∧ opD e.2 d
def Us (L : Nat → Nat) (k : Nat) (r : RP) : Prop := r.1 = true → ∀ d, d < 3 → (usT L k r.2.1 d ↔ usC r.2.2 d)
theorem usT_nil {L : Nat → Nat} {a d : Nat} : ¬ usT L a a d := fun ⟨k, h1, h2, _⟩ => by omega
theorem usT_app {L : Nat → Nat} {a b c d : Nat} (h1 : a ≤ b) (h2 : b ≤ c) : usT L a c d ↔ usT L a b d ∨ usT L b c d := by
  constructor
  · rintro ⟨k, q1, q2, q3⟩
    rcases Nat.lt_or_ge k b with w | w
    · exact Or.inl ⟨k, q1, w, q3⟩
    · exact Or.inr ⟨k, w, q2, q3⟩
  · rintro (⟨k, q1, q2, q3⟩ | ⟨k, q1, q2, q3⟩)
    · exact ⟨k, q1, by omega, q3⟩
    · exact ⟨k, by omega, q2, q3⟩
theorem usT_no {L : Nat → Nat} {a b d : Nat} (h : ∀ k, a ≤ k → k < b → L k ≠ 64) : ¬ usT L a b d := fun ⟨k, h1, h2, h3, _⟩ => h k h1 h2 h3
theorem usT_1 {L : Nat → Nat} {a d : Nat} (h : L a ≠ 64) : ¬ usT L a (a + 1) d := usT_no (fun k h1 h2 => by rw [show k = a by omega]; exact h)
theorem usC_app {c e : List (Nat × Nat)} {d : Nat} : usC (c ++ e) d ↔ usC c d ∨ usC e d := by
  constructor
  · rintro ⟨x, h1, h2⟩
    rcases List.mem_append.mp h1 with w | w
    · exact Or.inl ⟨x, w, h2⟩
    · exact Or.inr ⟨x, w, h2⟩
  · rintro (⟨x, h1, h2⟩ | ⟨x, h1, h2⟩)
    · exact ⟨x, List.mem_append.mpr (Or.inl h1), h2⟩
    · exact ⟨x, List.mem_append.mpr (Or.inr h1), h2⟩
theorem usC_1 {x : Nat × Nat} {d : Nat} : usC [x] d ↔ x.1 = 1 ∧ opD x.2 d := by
  constructor
  · rintro ⟨e, h1, h2⟩
    rw [List.mem_singleton.mp h1] at h2
    exact h2
  · intro h; exact ⟨x, List.mem_singleton.mpr rfl, h⟩
theorem usC_not {x : Nat × Nat} {d : Nat} (h : x.1 ≠ 1) : ¬ usC [x] d := fun w => h (usC_1.mp w).1
theorem usC_negs {g d : Nat} : ¬ usC (negs g) d := fun ⟨e, h1, h2, _⟩ => by
  have := (List.mem_replicate.mp h1).2
  rw [this] at h2
  exact absurd h2 (by decide)
theorem dgN_dig {L : Nat → Nat} : ∀ m k j, j < dgN L m k → isD (L (k + j)) = true := by
  intro m
  induction m with
  | zero => intro k j h; exact absurd h (by simp [dgN])
  | succ m ih =>
    intro k j h
    rw [dgN_s] at h
    by_cases q : isD (L k) = true
    · rw [if_pos q] at h
      by_cases e : j = 0
      · rw [e]; exact q
      · have := ih (k + 1) (j - 1) (by omega)
        rw [show k + 1 + (j - 1) = k + j by omega] at this
        exact this
    · rw [if_neg q] at h; omega
theorem dgN_no {L : Nat → Nat} {m k a : Nat} (h1 : k ≤ a) (h2 : a < k + dgN L m k) : L a ≠ 64 := by
  have := isD_iff.mp (dgN_dig (L := L) m k (a - k) (by omega))
  rw [show k + (a - k) = a by omega] at this
  omega
theorem num_us {L : Nat → Nat} {k : Nat} : Us L k (numP L k) := by
  unfold numP
  intro h d hd
  by_cases q : L (k + dgN L 4 k) = 46
  · rw [if_pos q] at h ⊢
    by_cases q2 : dgN L 3 (k + dgN L 4 k + 1) = 0
    · rw [if_pos q2] at h; exact absurd h (by simp)
    · rw [if_neg q2]
      refine ⟨fun w => absurd w (usT_no (fun a h1 h2 => ?_)), fun w => absurd w (usC_not (by simp))⟩
      have h3 : a < k + dgN L 4 k + 1 + dgN L 3 (k + dgN L 4 k + 1) := h2
      by_cases e1 : a < k + dgN L 4 k
      · exact dgN_no h1 e1
      · by_cases e2 : a = k + dgN L 4 k
        · rw [e2, q]; decide
        · exact dgN_no (m := 3) (k := k + dgN L 4 k + 1) (by omega) h3
  · rw [if_neg q]
    exact ⟨fun w => absurd w (usT_no (fun a h1 h2 => dgN_no h1 h2)), fun w => absurd w (usC_not (by simp))⟩
theorem nam_us {L : Nat → Nat} {k : Nat} (hk : isNm (L k) = true) : Us L k (namP L k) := by
  have hkd := isNm_iff.mp hk
  unfold namP
  intro h d hd
  by_cases q : L (k + 1) = 39
  · rw [if_pos q] at h ⊢
    by_cases q2 : L (k + 2) = 64
    · rw [if_pos q2] at h ⊢
      by_cases q3 : 48 ≤ L (k + 3) ∧ L (k + 3) ≤ 50
      · rw [if_pos q3]
        show usT L k (k + 4) d ↔ usC [(1, 13 + (L (k + 3) - 48) * 3 + (L k - 120))] d
        rw [usC_1]
        constructor
        · rintro ⟨a, h1, h2, h3, h4⟩
          have : a = k + 2 := by
            by_cases e0 : a = k
            · subst e0; omega
            · by_cases e1 : a = k + 1
              · subst e1; omega
              · by_cases e3 : a = k + 3
                · subst e3; omega
                · omega
          subst this
          have h4' : L (k + 3) = 48 + d := h4
          refine ⟨rfl, Or.inr ?_⟩
          dsimp only
          omega
        · rintro ⟨_, w⟩
          unfold opD at w
          dsimp only at w
          exact ⟨k + 2, by omega, by omega, q2, by show L (k + 3) = _; omega⟩
      · rw [if_neg q3] at h; exact absurd h (by simp)
    · rw [if_neg q2] at h; exact absurd h (by simp)
  · rw [if_neg q] at h ⊢
    by_cases q2 : L (k + 1) = 64
    · rw [if_pos q2] at h ⊢
      by_cases q3 : 48 ≤ L (k + 2) ∧ L (k + 2) ≤ 50
      · rw [if_pos q3]
        show usT L k (k + 3) d ↔ usC [(1, 4 + (L (k + 2) - 48) * 3 + (L k - 120))] d
        rw [usC_1]
        constructor
        · rintro ⟨a, h1, h2, h3, h4⟩
          have : a = k + 1 := by
            by_cases e0 : a = k
            · subst e0; omega
            · by_cases e3 : a = k + 2
              · subst e3; omega
              · omega
          subst this
          have h4' : L (k + 2) = 48 + d := h4
          refine ⟨rfl, Or.inl ?_⟩
          dsimp only
          omega
        · rintro ⟨_, w⟩
          unfold opD at w
          dsimp only at w
          exact ⟨k + 1, by omega, by omega, q2, by show L (k + 2) = _; omega⟩
      · rw [if_neg q3] at h; exact absurd h (by simp)
    · rw [if_neg q2]
      show usT L k (k + 1) d ↔ usC [(1, L k - 120)] d
      rw [usC_1]
      refine ⟨fun w => absurd w (usT_1 (by omega)), fun w => ?_⟩
      have := w.2
      unfold opD at this
      dsimp only at this
      omega
