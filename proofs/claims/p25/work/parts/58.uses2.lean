/-! the delays that a text uses: units, terms, sums -/
def SUs (L : Nat → Nat) (len : Nat) (S : Nat → RP) : Prop := ∀ k, k ≤ len → Us L k (S k)
theorem bare_us {S : Nat → RP} {o : Bool} {L : Nat → Nat} {len : Nat} (hL : LOK L len) (hS : o = true → SOK S L len) (hB : o = true → SUs L len S) : SUs L len (bareP S o L) := by
  intro k hk
  unfold bareP
  by_cases q1 : isD (L k) = true
  · rw [if_pos q1]; exact num_us
  rw [if_neg q1]
  by_cases q2 : isNm (L k) = true
  · rw [if_pos q2]; exact nam_us q2
  rw [if_neg q2]
  by_cases q3 : L k = 116
  · rw [if_pos q3]
    intro _ d hd
    show usT L k (k + 1) d ↔ usC [(1, 3)] d
    rw [usC_1]
    refine ⟨fun w => absurd w (usT_1 (by omega)), fun w => ?_⟩
    have := w.2
    unfold opD at this
    dsimp only at this
    omega
  rw [if_neg q3]
  by_cases q4 : L k = 109
  · rw [if_pos q4]
    by_cases q5 : L (k + 1) = 105 ∨ L (k + 1) = 97
    · rw [if_pos q5]
      by_cases q6 : L (k + 2) = (if L (k + 1) = 105 then 110 else 120)
      · rw [if_pos q6]
        by_cases q7 : o = true ∧ L (k + 3) = 40
        · rw [if_pos q7]
          have hk3 := LOK_lt hL (k := k + 3) (by omega)
          by_cases q8 : (S (k + 4)).1 = true
          · rw [if_pos q8]
            have ok := hS q7.1 (k + 4) (by omega) q8
            have u1 := hB q7.1 (k + 4) (by omega) q8
            by_cases q9 : L (S (k + 4)).2.1 = 44
            · rw [if_pos q9]
              have hk4 := LOK_lt hL (k := (S (k + 4)).2.1) (by omega)
              by_cases q10 : (S ((S (k + 4)).2.1 + 1)).1 = true
              · rw [if_pos q10]
                have ok2 := hS q7.1 ((S (k + 4)).2.1 + 1) (by omega) q10
                have u2 := hB q7.1 ((S (k + 4)).2.1 + 1) (by omega) q10
                by_cases q11 : L (S ((S (k + 4)).2.1 + 1)).2.1 = 41
                · rw [if_pos q11]
                  intro _ d hd
                  show usT L k ((S ((S (k + 4)).2.1 + 1)).2.1 + 1) d ↔ usC ((S (k + 4)).2.2 ++ (S ((S (k + 4)).2.1 + 1)).2.2 ++ [(if L (k + 1) = 105 then 7 else 8, 0)]) d
                  have hno : ¬ usT L k (k + 4) d := usT_no (fun a h1 h2 => by
                    by_cases e0 : a = k
                    · subst e0; omega
                    · by_cases e1 : a = k + 1
                      · subst e1; omega
                      · by_cases e2 : a = k + 2
                        · subst e2
                          rw [q6]; split <;> decide
                        · rw [show a = k + 3 by omega]; omega)
                  have hlast : ¬ usC [((if L (k + 1) = 105 then 7 else 8 : Nat), 0)] d := usC_not (by dsimp only; split <;> decide)
                  have a1 := ok.1
                  have a2 := ok2.1
                  rw [usC_app, usC_app, usT_app (show k ≤ k + 4 by omega) (show k + 4 ≤ (S ((S (k + 4)).2.1 + 1)).2.1 + 1 by omega), usT_app (show k + 4 ≤ (S (k + 4)).2.1 by omega) (show (S (k + 4)).2.1 ≤ (S ((S (k + 4)).2.1 + 1)).2.1 + 1 by omega), usT_app (show (S (k + 4)).2.1 ≤ (S (k + 4)).2.1 + 1 by omega) (show (S (k + 4)).2.1 + 1 ≤ (S ((S (k + 4)).2.1 + 1)).2.1 + 1 by omega), usT_app (show (S (k + 4)).2.1 + 1 ≤ (S ((S (k + 4)).2.1 + 1)).2.1 by omega) (show (S ((S (k + 4)).2.1 + 1)).2.1 ≤ (S ((S (k + 4)).2.1 + 1)).2.1 + 1 by omega), u1 d hd, u2 d hd]
                  have n1 : ¬ usT L (S (k + 4)).2.1 ((S (k + 4)).2.1 + 1) d := usT_1 (by omega)
                  have n2 : ¬ usT L (S ((S (k + 4)).2.1 + 1)).2.1 ((S ((S (k + 4)).2.1 + 1)).2.1 + 1) d := usT_1 (by omega)
                  constructor
                  · rintro (w | w | w | w | w)
                    · exact absurd w hno
                    · exact Or.inl (Or.inl w)
                    · exact absurd w n1
                    · exact Or.inl (Or.inr w)
                    · exact absurd w n2
                  · rintro ((w | w) | w)
                    · exact Or.inr (Or.inl w)
                    · exact Or.inr (Or.inr (Or.inr (Or.inl w)))
                    · exact absurd w hlast
                · rw [if_neg q11]; intro h; exact absurd h (by simp)
              · rw [if_neg q10]; intro h; exact absurd h (by simp)
            · rw [if_neg q9]; intro h; exact absurd h (by simp)
          · rw [if_neg q8]; intro h; exact absurd h (by simp)
        · rw [if_neg q7]; intro h; exact absurd h (by simp)
      · rw [if_neg q6]; intro h; exact absurd h (by simp)
    · rw [if_neg q5]; intro h; exact absurd h (by simp)
  rw [if_neg q4]
  by_cases q5 : o = true ∧ L k = 40
  · rw [if_pos q5]
    have hk3 := LOK_lt hL (k := k) (by omega)
    by_cases q8 : (S (k + 1)).1 = true
    · rw [if_pos q8]
      have ok := hS q5.1 (k + 1) (by omega) q8
      have u1 := hB q5.1 (k + 1) (by omega) q8
      by_cases q9 : L (S (k + 1)).2.1 = 41
      · rw [if_pos q9]
        intro _ d hd
        show usT L k ((S (k + 1)).2.1 + 1) d ↔ usC (S (k + 1)).2.2 d
        have a1 := ok.1
        rw [usT_app (show k ≤ k + 1 by omega) (show k + 1 ≤ (S (k + 1)).2.1 + 1 by omega), usT_app (show k + 1 ≤ (S (k + 1)).2.1 by omega) (show (S (k + 1)).2.1 ≤ (S (k + 1)).2.1 + 1 by omega), u1 d hd]
        have n0 : ¬ usT L k (k + 1) d := usT_1 (by omega)
        have n1 : ¬ usT L (S (k + 1)).2.1 ((S (k + 1)).2.1 + 1) d := usT_1 (by omega)
        exact ⟨fun w => w.elim (fun w => absurd w n0) (fun w => w.elim id (fun w => absurd w n1)), fun w => Or.inr (Or.inl w)⟩
      · rw [if_neg q9]; intro h; exact absurd h (by simp)
    · rw [if_neg q8]; intro h; exact absurd h (by simp)
  · rw [if_neg q5]; intro h; exact absurd h (by simp)
theorem ngN_no {L : Nat → Nat} : ∀ m k a, k ≤ a → a < k + ngN L m k → L a ≠ 64 := by
  intro m
  induction m with
  | zero => intro k a h1 h2; have : ngN L 0 k = 0 := rfl; omega
  | succ m ih =>
    intro k a h1 h2
    unfold ngN at h2
    by_cases q : L k = 45
    · rw [if_pos q] at h2
      by_cases e : a = k
      · subst e; omega
      · exact ih (k + 1) a (by omega) (by omega)
    · rw [if_neg q] at h2; omega
theorem unit_us {S : Nat → RP} {o : Bool} {L : Nat → Nat} {len : Nat} (hL : LOK L len) (hS : o = true → SOK S L len) (hB : o = true → SUs L len S) : SUs L len (unitP S o L) := by
  intro k hk
  have hg := ngN_len hL 80 k hk
  have hu := bare_us hL hS hB (k + ngN L 80 k) hg
  have ho := bare_ok hL hS hg
  unfold unitP
  by_cases q : (bareP S o L (k + ngN L 80 k)).1 = true
  · rw [if_pos q]
    intro _ d hd
    have a1 := (ho q).1
    show usT L k (bareP S o L (k + ngN L 80 k)).2.1 d ↔ usC ((bareP S o L (k + ngN L 80 k)).2.2 ++ negs (ngN L 80 k)) d
    rw [usC_app, usT_app (show k ≤ k + ngN L 80 k by omega) (by omega), hu q d hd]
    exact ⟨fun w => w.elim (fun w => absurd w (usT_no (fun a h1 h2 => ngN_no 80 k a h1 h2))) Or.inl, fun w => w.elim Or.inr (fun w => absurd w usC_negs)⟩
  · rw [if_neg q]; intro h; exact absurd h (by simp)
theorem row_us {U : Nat → RP} {L : Nat → Nat} {len a b ka kb : Nat} (hL : LOK L len) (ha : a ≠ 0 ∧ a ≠ 64) (hb : b ≠ 0 ∧ b ≠ 64) (hk1 : ka ≠ 1 ∧ kb ≠ 1) (hU : SOK U L len) (hB : SUs L len U) : ∀ m k0 k c, k0 ≤ k → k ≤ len → (∀ d, d < 3 → (usT L k0 k d ↔ usC c d)) → Us L k0 (rowP U L a b ka kb m k c) := by
  intro m
  induction m with
  | zero => intro k0 k c h1 h2 h3 _; exact h3
  | succ m ih =>
    intro k0 k c h1 h2 h3
    unfold rowP
    by_cases q : L k = a ∨ L k = b
    · rw [if_pos q]
      have hk2 := LOK_lt hL (k := k) (by omega)
      by_cases q2 : (U (k + 1)).1 = true
      · rw [if_pos q2]
        have ok := hU (k + 1) (by omega) q2
        have a1 := ok.1
        refine ih k0 _ _ (by omega) ok.2.1 (fun d hd => ?_)
        have hl : ¬ usC [((if L k = a then ka else kb : Nat), 0)] d := usC_not (by dsimp only; split <;> omega)
        rw [usC_app, usC_app, usT_app h1 (show k ≤ (U (k + 1)).2.1 by omega), usT_app (show k ≤ k + 1 by omega) (show k + 1 ≤ (U (k + 1)).2.1 by omega), h3 d hd, hB (k + 1) (by omega) q2 d hd]
        have n0 : ¬ usT L k (k + 1) d := usT_1 (by omega)
        exact ⟨fun w => w.elim (fun w => Or.inl (Or.inl w)) (fun w => w.elim (fun w => absurd w n0) (fun w => Or.inl (Or.inr w))), fun w => w.elim (fun w => w.elim Or.inl (fun w => Or.inr (Or.inr w))) (fun w => absurd w hl)⟩
      · rw [if_neg q2]; intro h; exact absurd h (by simp)
    · rw [if_neg q]; intro _; exact h3
theorem term_us {S : Nat → RP} {o : Bool} {L : Nat → Nat} {len : Nat} (hL : LOK L len) (hS : o = true → SOK S L len) (hB : o = true → SUs L len S) : SUs L len (termP S o L) := by
  intro k hk
  unfold termP
  by_cases q : (unitP S o L k).1 = true
  · rw [if_pos q]
    have ok := unit_ok hL hS hk q
    exact row_us hL (by omega) (by omega) (by omega) (fun k hk => unit_ok hL hS hk) (unit_us hL hS hB) 80 k _ _ (by have := ok.1; omega) ok.2.1 (unit_us hL hS hB k hk q)
  · rw [if_neg q]; intro h; exact absurd h (by simp)
theorem sumF_us {S : Nat → RP} {o : Bool} {L : Nat → Nat} {len : Nat} (hL : LOK L len) (hS : o = true → SOK S L len) (hB : o = true → SUs L len S) : SUs L len (sumF S o L) := by
  intro k hk
  unfold sumF
  by_cases q : (termP S o L k).1 = true
  · rw [if_pos q]
    have ok := term_ok hL hS hk q
    exact row_us hL (by omega) (by omega) (by omega) (fun k hk => term_ok hL hS hk) (term_us hL hS hB) 80 k _ _ (by have := ok.1; omega) ok.2.1 (term_us hL hS hB k hk q)
  · rw [if_neg q]; intro h; exact absurd h (by simp)
theorem sum_us {L : Nat → Nat} {len : Nat} (hL : LOK L len) : ∀ d, SUs L len (sumP L d) := by
  intro d
  induction d with
  | zero => exact sumF_us hL (fun h => absurd h (by decide)) (fun h => absurd h (by decide))
  | succ d ih => exact sumF_us hL (fun _ => sum_ok hL d) (fun _ => ih)
