/-! break points: what is asked of them -/
def nextN (T : Nat → Nat) (t : Nat) : Nat → Nat → Nat
  | 0, _ => 8000
  | f + 1, k => if t < T k then T k else nextN T t f (k + 1)
theorem nextN_s {T : Nat → Nat} {t f k : Nat} : nextN T t (f + 1) k = if t < T k then T k else nextN T t f (k + 1) := rfl
theorem nextN_at {T : Nat → Nat} {t n k : Nat} (h1 : ∀ i, i < k → ¬ t < T i) (h2 : k < n → t < T k) (hk : k ≤ n) : nextN T t n 0 = if k < n then T k else 8000 := by
  have key : ∀ g i, i + g = k → nextN T t (n - i) i = if k < n then T k else 8000 := by
    intro g
    induction g with
    | zero =>
      intro i hi
      have : i = k := by omega
      subst this
      by_cases q : i < n
      · rw [if_pos q, show n - i = (n - i - 1) + 1 by omega]
        unfold nextN
        rw [if_pos (h2 q)]
      · rw [if_neg q, show n - i = 0 by omega]
        rfl
    | succ g ih =>
      intro i hi
      have := ih (i + 1) (by omega)
      rw [show n - i = (n - (i + 1)) + 1 by omega]
      unfold nextN
      rw [if_neg (h1 i (by omega))]
      exact this
  exact key k 0 (by omega)
theorem n_next {s : RT} {n t : Nat} {T O D : Nat → Nat} {K : Int32 → Prop} (hB : BX s n T O D) (hn : n ≤ 40) (hT : ∀ i, i < n → T i ≤ 8000) (ht : t ≤ 8000) (h : K (nI (nextN T t n 0))) : wp_X0_next s (nI t) K := by
  unfold wp_X0_next
  rw [nI_1]
  refine n_pb hB hn hT (by omega) (fun k k1 k2 k3 => ?_)
  rw [nextN_at (k := k) (fun i hi z => by have := k2 i hi; omega) (fun z => by have := k3 z; omega) k1] at h
  rw [hB.1]
  refine ⟨fun q => ?_, fun q => n_pick (by decide) ?_⟩
  · have := (nI_leI (by omega) (by omega)).mp q
    rw [if_neg (by omega)] at h; exact h
  · have hk : k < n := by
      rcases Nat.lt_or_ge k n with z | z
      · exact z
      · exact absurd (nI_le z (by omega)) q
    rw [pk_n (by decide) (by omega), (hB.2 k hk).1]
    rw [if_pos hk] at h; exact h
theorem n_nextBreak {s : RT} {n t : Nat} {T O D : Nat → Nat} {K : Int32 → Prop} (hB : BM s n T O D) (hn : n ≤ 40) (hT : ∀ i, i < n → T i ≤ 8000) (ht : t ≤ 8000) (h : K (nI (nextN T t n 0))) : wp_X10_nextBreak s (nI t) K := by
  have key : ∀ f k, k + f = n → nextN T t f k = nextN T t n 0 → lp_X10_nextBreak_2 s (nI t) K (f + 1) (nI k) := by
    intro f
    induction f with
    | zero =>
      intro k h1 h2
      refine ⟨fun _ => ?_, fun q => ?_⟩
      · rw [← h2] at h; exact h
      · rw [hB.1] at q
        exact absurd (nI_le (show n ≤ k by omega) (by omega)) q
    | succ f ih =>
      intro k h1 h2
      rw [nextN_s] at h2
      have hk := hT k (by omega)
      refine ⟨fun q => ?_, fun _ => ?_⟩
      · rw [hB.1] at q
        have := (nI_leI (by omega) (by omega)).mp q
        omega
      · rw [nI_clamp (by omega), (hB.2 k (by omega)).1]
        refine ⟨vp_in_nI (by omega) (by decide), fun q x3 hx3 => ?_, fun q => ⟨vp_in_nI (by omega) (by decide), ?_⟩⟩
        · have e3 : x3 = nI (k + 1) := hx3.trans (nI_1 k)
          subst e3
          have := (nI_leI (by omega) (by omega)).mp q
          rw [if_neg (by omega)] at h2
          exact ih (k + 1) (by omega) h2
        · have hlt : t < T k := by
            rcases Nat.lt_or_ge t (T k) with z | z
            · exact z
            · exact absurd (nI_le z (by omega)) q
          rw [if_pos hlt] at h2
          rw [h2]; exact h
  exact ⟨n + 1, key n 0 (by omega) rfl⟩
theorem wi_eq {x lo hi : Int32} : wi x lo hi = true ↔ lo.toInt ≤ x.toInt ∧ x.toInt ≤ hi.toInt := by
  unfold wi
  simp only [Bool.and_eq_true, decide_eq_true_eq]
theorem b2_1 {b : Bool} : ¬ b2 b = 0 ↔ b = true := by cases b <;> decide
theorem n_breakAt {t c r p m : RT} {ct : Int32} {kp : Nat → Option Nat} {kr : Nat → RT} {sl : Nat → Option Nat} {sr : Nat → RT} {a0 a1 : Int32} {n : Nat} {T O D : Nat → Nat} {J : Int32 → Int32 → Prop} (hX : BX c n T O D) (hM : BM m n T O D) (hn : n ≤ 40) (hz : ∀ i, i < n → (T i = 0 ↔ i = 0)) (hJ : ∀ v, J v v) :
    wp_X9_breakAt t c r p ct kp kr sl sr a0 a1 (fun v => wp_X10_breakAt m a0 a1 (J v)) := by
  have hm0 : a0 < 0 → ∀ v, v = -2000000001 → wp_X10_breakAt m a0 a1 (J v) := fun q v hv => ⟨fun _ => by rw [hv]; exact hJ _, fun z => absurd q z⟩
  refine ⟨fun q => hm0 q _ rfl, fun q => n_isWithin ?_⟩
  refine ⟨fun w => ?_, fun w => ⟨fun z => absurd z q, fun _ => n_within ⟨fun z => absurd w z, fun _ => hJ _⟩⟩⟩
  have w' := b2_1.mp w
  obtain ⟨k, hk, rfl⟩ := nI_of q
  rw [hX.1]
  have hM2 : ∀ J', (k < n → (a1 = 0 → J' (nI (T k))) ∧ (a1 = 1 → J' (nI (O k))) ∧ (¬ a1 = 0 → ¬ a1 = 1 → J' (byM T D k))) → (n ≤ k → J' (-2000000004)) → wp_X10_breakAt m (nI k) a1 J' := by
    intro J' h1 h2
    refine ⟨fun z => absurd z q, fun _ => n_within ⟨fun _ => ?_, fun z => absurd z w⟩⟩
    rw [hM.1]
    refine ⟨fun z => ?_, fun z => h2 ?_⟩
    · have hk2 := (nI_ltI (by omega) (by omega)).mp z
      rw [nI_clamp (by omega), (hM.2 k hk2).1, (hM.2 k hk2).2.1, (hM.2 k hk2).2.2]
      exact ⟨fun e0 => ⟨fun e1 => ⟨vp_in_nI (by omega) (by decide), (h1 hk2).2.2 e0 e1⟩, fun e1 => ⟨vp_in_nI (by omega) (by decide), (h1 hk2).2.1 e1⟩⟩, fun e0 => ⟨vp_in_nI (by omega) (by decide), (h1 hk2).1 e0⟩⟩
    · rcases Nat.lt_or_ge k n with y | y
      · exact absurd (nI_lt y (by omega)) z
      · exact y
  have hj : (k = 0 → ¬ a1 = 2) → k < n → jp_X9_breakAt_44 t c r p ct kp kr sl sr (nI k) a1 (fun v => wp_X10_breakAt m (nI k) a1 (J v)) := by
    intro h2 hkn
    refine ⟨fun e0 => n_pick (by decide) ?_, fun e0 => ⟨fun e1 => n_pick (by decide) ?_, fun e1 => n_pick (by decide) ?_⟩⟩
    · rw [pk_n (by decide) (by omega), (hX.2 k hkn).1]
      exact hM2 _ (fun _ => ⟨fun _ => hJ _, fun e1 => by rw [e0] at e1; exact absurd e1 (by decide), fun z => absurd e0 z⟩) (fun z => by omega)
    · rw [pk_n (by decide) (by omega), (hX.2 k hkn).2.1]
      exact hM2 _ (fun _ => ⟨fun z => absurd z e0, fun _ => hJ _, fun _ z => absurd e1 z⟩) (fun z => by omega)
    · rw [pk_n (by decide) (by omega), (hX.2 k hkn).2.2]
      have hk0 : k ≠ 0 := fun z => h2 z (by
        obtain ⟨v, hv, e⟩ := wi02 w'
        rw [e] at e0 e1 ⊢
        have : v ≠ 0 := fun y => e0 (by rw [y]; rfl)
        have : v ≠ 1 := fun y => e1 (by rw [y]; rfl)
        rw [show v = 2 by omega]; rfl)
      refine hM2 _ (fun _ => ⟨fun z => absurd z e0, fun z => absurd z e1, fun _ _ => ?_⟩) (fun z => by omega)
      unfold byM
      rw [if_neg (fun z => hk0 ((hz k hkn).mp z))]
      exact hJ _
  refine ⟨fun z => hM2 _ (fun y => ?_) (fun _ => hJ _), fun z => ?_⟩
  · have := (nI_leI (by omega) (by omega)).mp z
    omega
  · have hkn : k < n := by
      rcases Nat.lt_or_ge k n with y | y
      · exact y
      · exact absurd (nI_le y (by omega)) z
    refine ⟨fun e => hj (fun y => absurd (by rw [y]; rfl) e) hkn, fun e => ⟨fun e2 => hj (fun _ => e2) hkn, fun e2 => ?_⟩⟩
    have hk0 : k = 0 := (nI_eq (b := 0) (by omega) (by decide)).mp e
    refine hM2 _ (fun _ => ⟨fun y => by rw [e2] at y; exact absurd y (by decide), fun y => by rw [e2] at y; exact absurd y (by decide), fun _ _ => ?_⟩) (fun y => by omega)
    unfold byM
    rw [if_pos ((hz k hkn).mpr hk0)]
    exact hJ _
