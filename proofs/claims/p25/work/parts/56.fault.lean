/-! the fault, of both programs -/
def SPB (S : Nat → RP) (len : Nat) : Prop := ∀ k, k ≤ len → (S k).2.1 ≤ len + 10
theorem bare_pb {S : Nat → RP} {o : Bool} {L : Nat → Nat} {len : Nat} (hL : LOK L len) (hS : o = true → SOK S L len) (hB : o = true → SPB S len) : SPB (bareP S o L) len := by
  intro k hk
  have n1 := num_pos (L := L) (k := k)
  have n2 := nam_pos (L := L) (k := k)
  unfold bareP
  by_cases q1 : isD (L k) = true
  · rw [if_pos q1]; omega
  rw [if_neg q1]
  by_cases q2 : isNm (L k) = true
  · rw [if_pos q2]; omega
  rw [if_neg q2]
  by_cases q3 : L k = 116
  · rw [if_pos q3]; show k + 1 ≤ _; omega
  rw [if_neg q3]
  by_cases q4 : L k = 109
  · rw [if_pos q4]
    by_cases q5 : L (k + 1) = 105 ∨ L (k + 1) = 97
    · rw [if_pos q5]
      by_cases q6 : L (k + 2) = (if L (k + 1) = 105 then 110 else 120)
      · rw [if_pos q6]
        by_cases q7 : o = true ∧ L (k + 3) = 40
        · rw [if_pos q7]
          have hk3 := LOK_lt hL (k := k + 3) (by omega)
          have b1 := hB q7.1 (k + 4) (by omega)
          by_cases q8 : (S (k + 4)).1 = true
          · rw [if_pos q8]
            have ok := hS q7.1 (k + 4) (by omega) q8
            by_cases q9 : L (S (k + 4)).2.1 = 44
            · rw [if_pos q9]
              have hk4 := LOK_lt hL (k := (S (k + 4)).2.1) (by omega)
              have b2 := hB q7.1 ((S (k + 4)).2.1 + 1) (by omega)
              by_cases q10 : (S ((S (k + 4)).2.1 + 1)).1 = true
              · rw [if_pos q10]
                have ok2 := hS q7.1 ((S (k + 4)).2.1 + 1) (by omega) q10
                by_cases q11 : L (S ((S (k + 4)).2.1 + 1)).2.1 = 41
                · rw [if_pos q11]; show (S ((S (k + 4)).2.1 + 1)).2.1 + 1 ≤ _; have := ok2.2.1; omega
                · rw [if_neg q11]; exact b2
              · rw [if_neg q10]; exact b2
            · rw [if_neg q9]; exact b1
          · rw [if_neg q8]; exact b1
        · rw [if_neg q7]; show k + 3 ≤ _; omega
      · rw [if_neg q6]; show k + 2 ≤ _; omega
    · rw [if_neg q5]; show k + 1 ≤ _; omega
  rw [if_neg q4]
  by_cases q5 : o = true ∧ L k = 40
  · rw [if_pos q5]
    have hk3 := LOK_lt hL (k := k) (by omega)
    have b1 := hB q5.1 (k + 1) (by omega)
    by_cases q8 : (S (k + 1)).1 = true
    · rw [if_pos q8]
      have ok := hS q5.1 (k + 1) (by omega) q8
      by_cases q9 : L (S (k + 1)).2.1 = 41
      · rw [if_pos q9]; show (S (k + 1)).2.1 + 1 ≤ _; have := ok.2.1; omega
      · rw [if_neg q9]; exact b1
    · rw [if_neg q8]; exact b1
  · rw [if_neg q5]; show k ≤ _; omega
theorem unit_pb {S : Nat → RP} {o : Bool} {L : Nat → Nat} {len : Nat} (hL : LOK L len) (hS : o = true → SOK S L len) (hB : o = true → SPB S len) : SPB (unitP S o L) len := by
  intro k hk
  have := bare_pb hL hS hB _ (ngN_len hL 80 k hk)
  unfold unitP
  split <;> exact this
theorem row_pb {U : Nat → RP} {L : Nat → Nat} {len a b ka kb : Nat} (hL : LOK L len) (ha : a ≠ 0) (hb : b ≠ 0) (hU : SOK U L len) (hB : SPB U len) : ∀ m k c, k ≤ len → (rowP U L a b ka kb m k c).2.1 ≤ len + 10 := by
  intro m
  induction m with
  | zero => intro k c hk; show k ≤ _; omega
  | succ m ih =>
    intro k c hk
    unfold rowP
    by_cases q : L k = a ∨ L k = b
    · rw [if_pos q]
      have hk2 := LOK_lt hL (k := k) (by omega)
      by_cases q2 : (U (k + 1)).1 = true
      · rw [if_pos q2]
        exact ih _ _ (hU (k + 1) (by omega) q2).2.1
      · rw [if_neg q2]; exact hB (k + 1) (by omega)
    · rw [if_neg q]; show k ≤ _; omega
theorem term_pb {S : Nat → RP} {o : Bool} {L : Nat → Nat} {len : Nat} (hL : LOK L len) (hS : o = true → SOK S L len) (hB : o = true → SPB S len) : SPB (termP S o L) len := by
  intro k hk
  have h := unit_pb hL hS hB k hk
  unfold termP
  by_cases q : (unitP S o L k).1 = true
  · rw [if_pos q]
    exact row_pb hL (by omega) (by omega) (fun k hk => unit_ok hL hS hk) (unit_pb hL hS hB) 80 _ _ (unit_ok hL hS hk q).2.1
  · rw [if_neg q]; exact h
theorem sumF_pb {S : Nat → RP} {o : Bool} {L : Nat → Nat} {len : Nat} (hL : LOK L len) (hS : o = true → SOK S L len) (hB : o = true → SPB S len) : SPB (sumF S o L) len := by
  intro k hk
  have h := term_pb hL hS hB k hk
  unfold sumF
  by_cases q : (termP S o L k).1 = true
  · rw [if_pos q]
    exact row_pb hL (by omega) (by omega) (fun k hk => term_ok hL hS hk) (term_pb hL hS hB) 80 _ _ (term_ok hL hS hk q).2.1
  · rw [if_neg q]; exact h
theorem sum_pb {L : Nat → Nat} {len : Nat} (hL : LOK L len) : ∀ d, SPB (sumP L d) len := by
  intro d
  induction d with
  | zero => exact sumF_pb hL (fun h => absurd h (by decide)) (fun h => absurd h (by decide))
  | succ d ih => exact sumF_pb hL (fun _ => sum_ok hL d) (fun _ => ih)
