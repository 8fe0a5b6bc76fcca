/-! the delays that a text uses: units, terms, sums -/
def SUs (L : Nat → Nat) (len : Nat) (S : Nat → RP) : Prop := ∀ k, k ≤ len → Us L k (S k)
theorem bare_us {S : Nat → RP} {o : Bool} {L : Nat → Nat} {len : Nat} (hL : LOK L len) (hS : o = true → SOK S L len) (hB : o = true → SUs L len S) : SUs L len (bareP S o L) := by
  intro k hk
  unfold bareP
  by_cases q1 : isD (L k) = true
  · rw [if_pos q1]; exact num_us
  rw [if_neg q1]
  by_cases q2 : isNm (L k) = true
  · rw [if_pos q2]; exact nam_us q2
  rw [if_neg q2]
  by_cases q3 : L k = 116
  · rw [if_pos q3]
    intro _ d hd
    show usT L k (k + 1) d ↔ usC [(1, 3)] d
    rw [usC_1]
    refine ⟨fun w => absurd w (usT_1 (by omega)), fun w => ?_⟩
    have := w.2
    unfold opD at this
    dsimp only at this
    omega
  rw [if_neg q3]
  by_cases q4 : L k = 109
  · rw [if_pos q4]
    by_cases q5 : L (k + 1) = 105 ∨ L (k + 1) = 97
    · rw [if_pos q5]
      by_cases q6 : L (k + 2) = (if L (k + 1) = 105 then 110 else 120)
      · rw [if_pos q6]
        by_cases q7 : o = true ∧ L (k + 3) = 40
        · rw [if_pos q7]
          have hk3 := LOK_lt hL (k := k + 3) (by omega)
          by_cases q8 : (S (k + 4)).1 = true
          · rw [if_pos q8]
            have ok := hS q7.1 (k + 4) (by omega) q8
            have u1 := hB q7.1 (k + 4) (by omega) q8
            by_cases q9 : L (S (k + 4)).2.1 = 44
            · rw [if_pos q9]
              have hk4 := LOK_lt hL (k := (S (k + 4)).2.1) (by omega)
              by_cases q10 : (S ((S (k + 4)).2.1 + 1)).1 = true
              · rw [if_pos q10]
                have ok2 := hS q7.1 ((S (k + 4)).2.1 + 1) (by omega) q10
                have u2 := hB q7.1 ((S (k + 4)).2.1 + 1) (by omega) q10
                by_cases q11 : L (S ((S (k + 4)).2.1 + 1)).2.1 = 41
                · rw [if_pos q11]
                  intro _ d hd
                  show usT L k ((S ((S (k + 4)).2.1 + 1)).2.1 + 1) d ↔ usC ((S (k + 4)).2.2 ++ (S ((S (k + 4)).2.1 + 1)).2.2 ++ [(if L (k + 1) = 105 then 7 else 8, 0)]) d
                  have hno : ¬ usT L k (k + 4) d := usT_no (fun a h1 h2 => by
                    by_cases e0 : a = k
                    · subst e0; omega
                    · by_cases e1 : a = k + 1
                      · subst e1; omega
                      · by_cases e2 : a = k + 2
                        · subst e2
                          rw [q6]; split <;> decide
                        · rw [show a = k + 3 by omega]; omega)
                  have hlast : ¬ usC [((if L (k + 1) = 105 then 7 else 8 : Nat), 0)] d := usC_not (by dsimp only; split <;> decide)
                  have a1 := ok.1
                  have a2 := ok2.1
                  rw [usC_app, usC_app, usT_app (show k ≤ k + 4 by omega) (show k + 4 ≤ (S ((S (k + 4)).2.1 + 1)).2.1 + 1 by omega), usT_app (show k + 4 ≤ (S (k + 4)).2.1 by omega) (show (S (k + 4)).2.1 ≤ (S ((S (k + 4)).2.1 + 1)).2.1 + 1 by omega), usT_app (show (S (k + 4)).2.1 ≤ (S (k + 4)).2.1 + 1 by omega) (show (S (k + 4)).2.1 + 1 ≤ (S ((S (k + 4)).2.1 + 1)).2.1 + 1 by omega), usT_app (show (S (k + 4)).2.1 + 1 ≤ (S ((S (k + 4)).2.1 + 1)).2.1 by omega) (show (S ((S (k + 4)).2.1 + 1)).2.1 ≤ (S ((S (k + 4)).2.1 + 1)).2.1 + 1 by omega), u1 d hd, u2 d hd]
                  have n1 : ¬ usT L (S (k + 4)).2.1 ((S (k + 4)).2.1 + 1) d := usT_1 (by omega)
                  have n2 : ¬ usT L (S ((S (k + 4)).2.1 + 1)).2.1 ((S ((S (k + 4)).2.1 + 1)).2.1 + 1) d := usT_1 (by omega)
                  constructor
                  · rintro (w | w | w | w | w)
                    · exact absurd w hno
                    · exact Or.inl (Or.inl w)
                    · exact absurd w n1
                    · exact Or.inl (Or.inr w)
                    · exact absurd w n2
                  · rintro ((w | w) | w)
                    · exact Or.inr (Or.inl w)
                    · exact Or.inr (Or.inr (Or.inr (Or.inl w)))
                    · exact absurd w hlast
                · rw [if_neg q11]; intro h; exact absurd h (by simp)
              · rw [if_neg q10]; intro h; exact absurd h (by simp)
            · rw [if_neg q9]; intro h; exact absurd h (by simp)
          · rw [if_neg q8]; intro h; exact absurd h (by simp)
        · rw [if_neg q7]; intro h; exact absurd h (by simp)
      · rw [if_neg q6]; intro h; exact absurd h (by simp)
    · rw [if_neg q5]; intro h; exact absurd h (by simp)
  rw [if_neg q4]
  by_cases q5 : o = true ∧ L k = 40
  · rw [if_pos q5]
    have hk3 := LOK_lt hL (k := k) (by omega)
    by_cases q8 : (S (k + 1)).1 = true
    · rw [if_pos q8]
      have ok := hS q5.1 (k + 1) (by omega) q8
      have u1 := hB q5.1 (k + 1) (by omega) q8
      by_cases q9 : L (S (k + 1)).2.1 = 41
      · rw [if_pos q9]
        intro _ d hd
        show usT L k ((S (k + 1)).2.1 + 1) d ↔ usC (S (k + 1)).2.2 d
        have a1 := ok.1
        rw [usT_app (show k ≤ k + 1 by omega) (show k + 1 ≤ (S (k + 1)).2.1 + 1 by omega), usT_app (show k + 1 ≤ (S (k + 1)).2.1 by omega) (show (S (k + 1)).2.1 ≤ (S (k + 1)).2.1 + 1 by omega), u1 d hd]
        have n0 : ¬ usT L k (k + 1) d := usT_1 (by omega)
        have n1 : ¬ usT L (S (k + 1)).2.1 ((S (k + 1)).2.1 + 1) d := usT_1 (by omega)
        exact ⟨fun w => w.elim (fun w => absurd w n0) (fun w => w.elim id (fun w => absurd w n1)), fun w => Or.inr (Or.inl w)⟩
      · rw [if_neg q9]; intro h; exact absurd h (by simp)
    · rw [if_neg q8]; intro h; exact absurd h (by simp)
  · rw [if_neg q5]; intro h; exact absurd h (by simp)
