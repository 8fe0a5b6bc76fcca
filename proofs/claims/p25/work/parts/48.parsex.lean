/-! the class reads units, terms, sums -/
def Rok (len k : Nat) (r : RP) : Prop := r.1 = true → k < r.2.1 ∧ r.2.1 ≤ len ∧ r.2.2.length + k ≤ r.2.1
theorem num_ok {L : Nat → Nat} {len k : Nat} (hL : LOK L len) (hk : isD (L k) = true) : Rok len k (numP L k) := by
  have hkd := isD_iff.mp hk
  have hkl := LOK_lt hL (k := k) (by omega)
  have e1 := dgN_len hL 4 k (by omega)
  have e0 : 1 ≤ dgN L 4 k := by unfold dgN; rw [if_pos hk]; omega
  unfold numP
  generalize dgN L 4 k = g at e1 e0
  intro h
  by_cases q : L (k + g) = 46
  · rw [if_pos q] at h ⊢
    have hkg := LOK_lt hL (k := k + g) (by omega)
    have e2 := dgN_len hL 3 (k + g + 1) (by omega)
    by_cases q2 : dgN L 3 (k + g + 1) = 0
    · rw [if_pos q2] at h; exact absurd h (by simp)
    · rw [if_neg q2]
      refine ⟨?_, e2, ?_⟩
      · show k < k + g + 1 + _; omega
      · show 1 + k ≤ k + g + 1 + _; omega
  · rw [if_neg q]
    refine ⟨?_, e1, ?_⟩
    · show k < k + g; omega
    · show 1 + k ≤ k + g; omega
theorem nam_ok {L : Nat → Nat} {len k : Nat} (hL : LOK L len) (hk : isNm (L k) = true) : Rok len k (namP L k) := by
  have hkd := isNm_iff.mp hk
  have hkl := LOK_lt hL (k := k) (by omega)
  unfold namP
  intro h
  by_cases q : L (k + 1) = 39
  · rw [if_pos q] at h ⊢
    by_cases q2 : L (k + 2) = 64
    · rw [if_pos q2] at h ⊢
      by_cases q3 : 48 ≤ L (k + 3) ∧ L (k + 3) ≤ 50
      · rw [if_pos q3]
        have := LOK_lt hL (k := k + 3) (by omega)
        refine ⟨?_, ?_, ?_⟩
        · show k < k + 4; omega
        · show k + 4 ≤ len; omega
        · show 1 + k ≤ k + 4; omega
      · rw [if_neg q3] at h; exact absurd h (by simp)
    · rw [if_neg q2] at h; exact absurd h (by simp)
  · rw [if_neg q] at h ⊢
    by_cases q2 : L (k + 1) = 64
    · rw [if_pos q2] at h ⊢
      by_cases q3 : 48 ≤ L (k + 2) ∧ L (k + 2) ≤ 50
      · rw [if_pos q3]
        have := LOK_lt hL (k := k + 2) (by omega)
        refine ⟨?_, ?_, ?_⟩
        · show k < k + 3; omega
        · show k + 3 ≤ len; omega
        · show 1 + k ≤ k + 3; omega
      · rw [if_neg q3] at h; exact absurd h (by simp)
    · rw [if_neg q2]
      refine ⟨?_, ?_, ?_⟩
      · show k < k + 1; omega
      · show k + 1 ≤ len; omega
      · show 1 + k ≤ k + 1; omega
def SOK (S : Nat → RP) (L : Nat → Nat) (len : Nat) : Prop := ∀ k, k ≤ len → Rok len k (S k)
theorem bare_ok {S : Nat → RP} {o : Bool} {L : Nat → Nat} {len k : Nat} (hL : LOK L len) (hS : o = true → SOK S L len) (hk : k ≤ len) : Rok len k (bareP S o L k) := by
  unfold bareP
  by_cases q1 : isD (L k) = true
  · rw [if_pos q1]; exact num_ok hL q1
  rw [if_neg q1]
  by_cases q2 : isNm (L k) = true
  · rw [if_pos q2]; exact nam_ok hL q2
  rw [if_neg q2]
  by_cases q3 : L k = 116
  · rw [if_pos q3]
    have := LOK_lt hL (k := k) (by omega)
    intro _
    refine ⟨?_, ?_, ?_⟩
    · show k < k + 1; omega
    · show k + 1 ≤ len; omega
    · show 1 + k ≤ k + 1; omega
  rw [if_neg q3]
  by_cases q4 : L k = 109
  · rw [if_pos q4]
    by_cases q5 : L (k + 1) = 105 ∨ L (k + 1) = 97
    · rw [if_pos q5]
      by_cases q6 : L (k + 2) = (if L (k + 1) = 105 then 110 else 120)
      · rw [if_pos q6]
        by_cases q7 : o = true ∧ L (k + 3) = 40
        · rw [if_pos q7]
          have hk3 := LOK_lt hL (k := k + 3) (by omega)
          intro h
          by_cases q8 : (S (k + 4)).1 = true
          · rw [if_pos q8] at h ⊢
            obtain ⟨a1, a2, a3⟩ := hS q7.1 (k + 4) (by omega) q8
            by_cases q9 : L (S (k + 4)).2.1 = 44
            · rw [if_pos q9] at h ⊢
              have hk4 := LOK_lt hL (k := (S (k + 4)).2.1) (by omega)
              by_cases q10 : (S ((S (k + 4)).2.1 + 1)).1 = true
              · rw [if_pos q10] at h ⊢
                obtain ⟨b1, b2, b3⟩ := hS q7.1 ((S (k + 4)).2.1 + 1) (by omega) q10
                by_cases q11 : L (S ((S (k + 4)).2.1 + 1)).2.1 = 41
                · rw [if_pos q11]
                  have hk5 := LOK_lt hL (k := (S ((S (k + 4)).2.1 + 1)).2.1) (by omega)
                  refine ⟨?_, ?_, ?_⟩
                  · show k < (S ((S (k + 4)).2.1 + 1)).2.1 + 1; omega
                  · show (S ((S (k + 4)).2.1 + 1)).2.1 + 1 ≤ len; omega
                  · show ((S (k + 4)).2.2 ++ (S ((S (k + 4)).2.1 + 1)).2.2 ++ [_]).length + k ≤ (S ((S (k + 4)).2.1 + 1)).2.1 + 1
                    rw [List.length_append, List.length_append]
                    simp only [List.length_cons, List.length_nil]
                    omega
                · rw [if_neg q11] at h; exact absurd h (by simp)
              · rw [if_neg q10] at h; exact absurd h (by simp)
            · rw [if_neg q9] at h; exact absurd h (by simp)
          · rw [if_neg q8] at h; exact absurd h (by simp)
        · rw [if_neg q7]; intro h; exact absurd h (by simp)
      · rw [if_neg q6]; intro h; exact absurd h (by simp)
    · rw [if_neg q5]; intro h; exact absurd h (by simp)
  rw [if_neg q4]
  by_cases q5 : o = true ∧ L k = 40
  · rw [if_pos q5]
    have hk3 := LOK_lt hL (k := k) (by omega)
    intro h
    by_cases q8 : (S (k + 1)).1 = true
    · rw [if_pos q8] at h ⊢
      obtain ⟨a1, a2, a3⟩ := hS q5.1 (k + 1) (by omega) q8
      by_cases q9 : L (S (k + 1)).2.1 = 41
      · rw [if_pos q9]
        have hk5 := LOK_lt hL (k := (S (k + 1)).2.1) (by omega)
        refine ⟨?_, ?_, ?_⟩
        · show k < (S (k + 1)).2.1 + 1; omega
        · show (S (k + 1)).2.1 + 1 ≤ len; omega
        · show (S (k + 1)).2.2.length + k ≤ (S (k + 1)).2.1 + 1; omega
      · rw [if_neg q9] at h; exact absurd h (by simp)
    · rw [if_neg q8] at h; exact absurd h (by simp)
  · rw [if_neg q5]; intro h; exact absurd h (by simp)
theorem ngN_len {L : Nat → Nat} {len : Nat} (hL : LOK L len) : ∀ m k, k ≤ len → k + ngN L m k ≤ len := by
  intro m
  induction m with
  | zero => intro k h; exact h
  | succ m ih =>
    intro k h
    unfold ngN
    by_cases q : L k = 45
    · rw [if_pos q]
      have := LOK_lt hL (k := k) (by omega)
      have := ih (k + 1) (by omega)
      omega
    · rw [if_neg q]; exact h
theorem unit_ok {S : Nat → RP} {o : Bool} {L : Nat → Nat} {len k : Nat} (hL : LOK L len) (hS : o = true → SOK S L len) (hk : k ≤ len) : Rok len k (unitP S o L k) := by
  unfold unitP
  have hg := ngN_len hL 80 k hk
  intro h
  by_cases q : (bareP S o L (k + ngN L 80 k)).1 = true
  · rw [if_pos q]
    obtain ⟨a1, a2, a3⟩ := bare_ok hL hS hg q
    refine ⟨?_, a2, ?_⟩
    · show k < (bareP S o L (k + ngN L 80 k)).2.1; omega
    · show ((bareP S o L (k + ngN L 80 k)).2.2 ++ negs (ngN L 80 k)).length + k ≤ (bareP S o L (k + ngN L 80 k)).2.1
      rw [List.length_append]
      unfold negs
      rw [List.length_replicate]
      omega
  · rw [if_neg q] at h; exact absurd h (by simp)
theorem row_ok {U : Nat → RP} {L : Nat → Nat} {len a b ka kb : Nat} (hL : LOK L len) (ha : a ≠ 0) (hb : b ≠ 0) (hU : SOK U L len) : ∀ m k0 k c, k0 < k → k ≤ len → c.length + k0 ≤ k → Rok len k0 (rowP U L a b ka kb m k c) := by
  intro m
  induction m with
  | zero => intro k0 k c h1 h2 h3 _; exact ⟨h1, h2, h3⟩
  | succ m ih =>
    intro k0 k c h1 h2 h3
    unfold rowP
    by_cases q : L k = a ∨ L k = b
    · rw [if_pos q]
      have hk := LOK_lt hL (k := k) (by omega)
      by_cases q2 : (U (k + 1)).1 = true
      · rw [if_pos q2]
        obtain ⟨a1, a2, a3⟩ := hU (k + 1) (by omega) q2
        refine ih k0 _ _ (by omega) a2 ?_
        rw [List.length_append, List.length_append]
        simp only [List.length_cons, List.length_nil]
        omega
      · rw [if_neg q2]; intro h; exact absurd h (by simp)
    · rw [if_neg q]; intro _; exact ⟨h1, h2, h3⟩
theorem term_ok {S : Nat → RP} {o : Bool} {L : Nat → Nat} {len k : Nat} (hL : LOK L len) (hS : o = true → SOK S L len) (hk : k ≤ len) : Rok len k (termP S o L k) := by
  unfold termP
  by_cases q : (unitP S o L k).1 = true
  · rw [if_pos q]
    obtain ⟨a1, a2, a3⟩ := unit_ok hL hS hk q
    exact row_ok hL (by omega) (by omega) (fun k hk => unit_ok hL hS hk) 80 k _ _ a1 a2 a3
  · rw [if_neg q]; intro h; exact absurd h (by simp)
theorem sumF_ok {S : Nat → RP} {o : Bool} {L : Nat → Nat} {len k : Nat} (hL : LOK L len) (hS : o = true → SOK S L len) (hk : k ≤ len) : Rok len k (sumF S o L k) := by
  unfold sumF
  by_cases q : (termP S o L k).1 = true
  · rw [if_pos q]
    obtain ⟨a1, a2, a3⟩ := term_ok hL hS hk q
    exact row_ok hL (by omega) (by omega) (fun k hk => term_ok hL hS hk) 80 k _ _ a1 a2 a3
  · rw [if_neg q]; intro h; exact absurd h (by simp)
theorem sum_ok {L : Nat → Nat} {len : Nat} (hL : LOK L len) : ∀ d, SOK (sumP L d) L len := by
  intro d
  induction d with
  | zero => intro k hk; exact sumF_ok hL (fun h => absurd h (by decide)) hk
  | succ d ih => intro k hk; exact sumF_ok hL (fun _ => ih) hk
