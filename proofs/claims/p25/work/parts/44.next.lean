/-! break points: what is asked of them -/
def nextN (T : Nat → Nat) (t : Nat) : Nat → Nat → Nat
  | 0, _ => 8000
  | f + 1, k => if t < T k then T k else nextN T t f (k + 1)
theorem nextN_s {T : Nat → Nat} {t f k : Nat} : nextN T t (f + 1) k = if t < T k then T k else nextN T t f (k + 1) := rfl
theorem nextN_at {T : Nat → Nat} {t n k : Nat} (h1 : ∀ i, i < k → ¬ t < T i) (h2 : k < n → t < T k) (hk : k ≤ n) : nextN T t n 0 = if k < n then T k else 8000 := by
  have key : ∀ g i, i + g = k → nextN T t (n - i) i = if k < n then T k else 8000 := by
    intro g
    induction g with
    | zero =>
      intro i hi
      have : i = k := by omega
      subst this
      by_cases q : i < n
      · rw [if_pos q, show n - i = (n - i - 1) + 1 by omega]
        unfold nextN
        rw [if_pos (h2 q)]
      · rw [if_neg q, show n - i = 0 by omega]
        rfl
    | succ g ih =>
      intro i hi
      have := ih (i + 1) (by omega)
      rw [show n - i = (n - (i + 1)) + 1 by omega]
      unfold nextN
      rw [if_neg (h1 i (by omega))]
      exact this
  exact key k 0 (by omega)
theorem n_next {s : RT} {n t : Nat} {T O D : Nat → Nat} {K : Int32 → Prop} (hB : BX s n T O D) (hn : n ≤ 40) (hT : ∀ i, i < n → T i ≤ 8000) (ht : t ≤ 8000) (h : K (nI (nextN T t n 0))) : wp_X0_next s (nI t) K := by
  unfold wp_X0_next
  rw [nI_1]
  refine n_pb hB hn hT (by omega) (fun k k1 k2 k3 => ?_)
  rw [nextN_at (k := k) (fun i hi z => by have := k2 i hi; omega) (fun z => by have := k3 z; omega) k1] at h
  rw [hB.1]
  refine ⟨fun q => ?_, fun q => n_pick (by decide) ?_⟩
  · have := (nI_leI (by omega) (by omega)).mp q
    rw [if_neg (by omega)] at h; exact h
  · have hk : k < n := by
      rcases Nat.lt_or_ge k n with z | z
      · exact z
      · exact absurd (nI_le z (by omega)) q
    rw [pk_n (by decide) (by omega), (hB.2 k hk).1]
    rw [if_pos hk] at h; exact h
theorem wi_eq {x lo hi : Int32} : wi x lo hi = true ↔ lo.toInt ≤ x.toInt ∧ x.toInt ≤ hi.toInt := by
  unfold wi
  simp only [Bool.and_eq_true, decide_eq_true_eq]
theorem b2_1 {b : Bool} : ¬ b2 b = 0 ↔ b = true := by cases b <;> decide
