/-! the path: n steps; the row s of g stands at s * 8 -/
def POK (n : Nat) (g : Nat → Int32) : Prop := g 0 = 0 ∧ n ≤ 960 ∧ (∀ s, s ≤ n → (g (s * 8)).toInt ≤ 8000 ∧ ∀ v, v < 3 → -1000000000 ≤ (g (s * 8 + 1 + v)).toInt ∧ (g (s * 8 + 1 + v)).toInt ≤ 1000000000) ∧ ∀ s, s < n → (g (s * 8)).toInt < (g ((s + 1) * 8)).toInt ∧ (g ((s + 1) * 8)).toInt ≤ (g (s * 8)).toInt + 500 ∧ ∀ v, v < 3 → -2000000000 ≤ (g (s * 8 + 4 + v)).toInt ∧ (g (s * 8 + 4 + v)).toInt ≤ 2000000000
def PX (s : RT) (n : Nat) (g : Nat → Int32) : Prop := s.2.2 1 = nI n ∧ ∀ j, j < n * 8 + 4 → s.1 18 j = g j
theorem POK_mono {n : Nat} {g : Nat → Int32} (h : POK n g) {i j : Nat} (hij : i < j) (hj : j ≤ n) : (g (i * 8)).toInt < (g (j * 8)).toInt := by
  induction j with
  | zero => omega
  | succ j ih =>
    have h1 := (h.2.2.2 j (by omega)).1
    by_cases e : i = j
    · subst e; exact h1
    · have := ih (by omega) (by omega); omega
theorem POK_nn {n : Nat} {g : Nat → Int32} (h : POK n g) {s : Nat} (hs : s ≤ n) : 0 ≤ (g (s * 8)).toInt := by
  by_cases e : s = 0
  · subst e
    rw [show 0 * 8 = 0 from rfl, h.1]; decide
  · have := POK_mono h (show 0 < s by omega) hs
    rw [show 0 * 8 = 0 from rfl, h.1] at this
    simp only [Int32.toInt_zero] at this
    omega
def stN (n : Nat) (g : Nat → Int32) (t : Int) : Nat → Nat → Nat
  | 0, s => s
  | k + 1, s => if n ≤ s + 1 then s else if t ≤ (g ((s + 1) * 8)).toInt then s else stN n g t k (s + 1)
def stT (n : Nat) (g : Nat → Int32) (t : Int) : Nat := stN n g t n 0
theorem stN_ok {n : Nat} {g : Nat → Int32} {t : Int} : ∀ k s, n ≤ s + k → (s = 0 ∨ s < n) → (∀ j, j < s → (g ((j + 1) * 8)).toInt < t) → (stN n g t k s = 0 ∨ stN n g t k s < n) ∧ (∀ j, j < stN n g t k s → (g ((j + 1) * 8)).toInt < t) ∧ (stN n g t k s + 1 < n → t ≤ (g ((stN n g t k s + 1) * 8)).toInt) := by
  intro k
  induction k with
  | zero => intro s h1 h2 h3; exact ⟨by simpa only [stN] using h2, by simpa only [stN] using h3, by simp only [stN]; omega⟩
  | succ k ih =>
    intro s h1 h2 h3
    unfold stN
    by_cases q : n ≤ s + 1
    · rw [if_pos q]; exact ⟨h2, h3, fun w => by omega⟩
    · rw [if_neg q]
      by_cases q2 : t ≤ (g ((s + 1) * 8)).toInt
      · rw [if_pos q2]; exact ⟨h2, h3, fun _ => q2⟩
      · rw [if_neg q2]
        refine ih (s + 1) (by omega) (Or.inr (by omega)) (fun j hj => ?_)
        by_cases e : j = s
        · subst e; omega
        · exact h3 j (by omega)
theorem stT_ok (n : Nat) (g : Nat → Int32) (t : Int) : (stT n g t = 0 ∨ stT n g t < n) ∧ (∀ j, j < stT n g t → (g ((j + 1) * 8)).toInt < t) ∧ (stT n g t + 1 < n → t ≤ (g ((stT n g t + 1) * 8)).toInt) := stN_ok n 0 (by omega) (Or.inl rfl) (fun j hj => by omega)
/-- up to the end, the step that is told holds the time -/
theorem stT_in {n : Nat} {g : Nat → Int32} {t : Int} (hP : POK n g) (h0 : 0 < t) (h1 : t ≤ (g (n * 8)).toInt) : stT n g t < n ∧ (g (stT n g t * 8)).toInt < t ∧ t ≤ (g ((stT n g t + 1) * 8)).toInt := by
  have hn : n ≠ 0 := fun e => by
    subst e
    rw [show 0 * 8 = 0 from rfl, hP.1] at h1
    simp only [Int32.toInt_zero] at h1
    omega
  obtain ⟨a, b, c⟩ := stT_ok n g t
  generalize stT n g t = u at a b c
  refine ⟨by omega, ?_, ?_⟩
  · by_cases e : u = 0
    · subst e
      rw [show 0 * 8 = 0 from rfl, hP.1]
      simp only [Int32.toInt_zero]
      omega
    · have := b (u - 1) (by omega)
      rwa [show u - 1 + 1 = u by omega] at this
  · by_cases e : u + 1 < n
    · exact c e
    · rw [show u + 1 = n by omega]; exact h1
theorem ix8 (u : Nat) : nI u * 8 = nI (u * 8) := by rw [show (8 : Int32) = nI 8 from rfl, pk_mul]
theorem ix8n (u : Nat) : (nI u + 1) * 8 = nI ((u + 1) * 8) := by rw [nI_1, ix8]
theorem ix81 (u v : Nat) : nI (u * 8) + 1 + nI v = nI (u * 8 + 1 + v) := by rw [nI_1, nI_add]
theorem ix84 (u v : Nat) : nI (u * 8) + 4 + nI v = nI (u * 8 + 4 + v) := by rw [show (4 : Int32) = nI 4 from rfl, nI_add, nI_add]
theorem ix88 (u : Nat) : nI (u * 8) + 8 = nI ((u + 1) * 8) := by rw [show (8 : Int32) = nI 8 from rfl, nI_add]; congr 1; omega
theorem n_stepTo {s : RT} {n : Nat} {g : Nat → Int32} {t : Int32} {K : Int32 → Prop} (hX : PX s n g) (hP : POK n g) (h : K (nI (stT n g t.toInt))) : wp_X4_stepTo s t K := by
  have hn := hP.2.1
  obtain ⟨a, b, c⟩ := stT_ok n g t.toInt
  generalize stT n g t.toInt = u at h a b c
  intro x1 hx1
  rw [hX.1] at hx1
  by_cases n0 : n = 0
  · subst n0
    have e1 : x1 = -1 := hx1
    subst e1
    have : u = 0 := by omega
    subst this
    exact ⟨1, fun _ => h, fun _ => ⟨fun _ => h, fun q => absurd (show (-1 : Int32) ≤ 0 by decide) q⟩⟩
  · rw [p1 n0] at hx1
    subst hx1
    have key : ∀ m lo hi k, lo ≤ u → u ≤ hi → hi < n → k + (hi - lo) < n → hi - lo < m → lp_X4_stepTo_12 s t K m (nI lo) (nI hi) (nI k) := by
      intro m
      induction m with
      | zero => intro lo hi k h1 h2 h3 h4 h5; omega
      | succ m ih =>
        intro lo hi k h1 h2 h3 h4 h5
        refine ⟨fun q => ?_, fun q => ⟨fun q2 => ?_, fun q2 x4 hx4 => ?_⟩⟩
        · have := (nI_leI (a := 960) (by decide) (by omega)).mp q
          omega
        · have := (nI_leI (by omega) (by omega)).mp q2
          rw [show lo = u by omega]; exact h
        · have hlt : lo < hi := by
            rcases Nat.lt_or_ge lo hi with w | w
            · exact w
            · exact absurd (nI_le w (by omega)) q2
          have e4 : x4 = nI ((lo + hi) / 2) := by rw [hx4, nI_add, show (2 : Int32) = nI 2 from rfl, pk_div (by omega) (by decide) (by decide)]
          subst e4
          generalize hm : (lo + hi) / 2 = mid
          rw [ix8n]
          refine n_pick (by decide) ?_
          rw [pk_n (by decide) (by omega), hX.2 _ (by omega)]
          refine ⟨fun q3 x7 hx7 x8 hx8 => ?_, fun q3 x9 hx9 => ?_⟩
          · have e7 : x7 = nI (mid + 1) := hx7.trans (nI_1 mid)
            have e8 : x8 = nI (k + 1) := hx8.trans (nI_1 k)
            subst e7; subst e8
            refine ih (mid + 1) hi (k + 1) ?_ h2 h3 (by omega) (by omega)
            rcases Nat.lt_or_ge mid u with w | w
            · omega
            · have h6 := c (by omega)
              rw [i_lt] at q3
              by_cases e : u = mid
              · subst e; omega
              · have := POK_mono hP (show u + 1 < mid + 1 by omega) (by omega)
                omega
          · have e9 : x9 = nI (k + 1) := hx9.trans (nI_1 k)
            subst e9
            refine ih lo mid (k + 1) h1 ?_ (by omega) (by omega) (by omega)
            rcases Nat.lt_or_ge mid u with w | w
            · have := b mid w
              rw [i_lt] at q3
              omega
            · exact w
    exact ⟨n + 1, key (n + 1) 0 (n - 1) 0 (by omega) (by omega) (by omega) (by omega) (by omega)⟩
