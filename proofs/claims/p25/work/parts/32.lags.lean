/-! lags, and the times that delays make -/
theorem td1000 (a : Int) : a.tdiv 1000 = if 0 ≤ a then a / 1000 else -((-a) / 1000) := by
  by_cases h : 0 ≤ a
  · rw [if_pos h, Int.tdiv_eq_ediv_of_nonneg h]
  · rw [if_neg h]
    have h1 : (-a).tdiv 1000 = (-a) / 1000 := Int.tdiv_eq_ediv_of_nonneg (by omega)
    rw [Int.neg_tdiv] at h1
    omega
def lagI (c s t : Int) : Int := if 0 < c + (s * t).tdiv 1000 then c + (s * t).tdiv 1000 else 0
theorem lag_step {c s t : Int} (h1 : -900 ≤ s) (h2 : s ≤ 900) : lagI c s (t + 1) ≤ lagI c s t + 1 := by
  have e : s * (t + 1) = s * t + s := by rw [Int.mul_add, Int.mul_one]
  unfold lagI
  rw [e]
  generalize s * t = p
  rw [td1000, td1000]
  split <;> split <;> split <;> split <;> omega
theorem lag_nn {c s t : Int} : 0 ≤ lagI c s t := by unfold lagI; split <;> omega
theorem mul_bound {s t a b : Int} (h1 : -a ≤ s) (h2 : s ≤ a) (h3 : 0 ≤ t) (h4 : t ≤ b) : -(a * b) ≤ s * t ∧ s * t ≤ a * b := by
  have ha : 0 ≤ a := by omega
  have e1 : s * t ≤ a * t := Int.mul_le_mul_of_nonneg_right h2 h3
  have e2 : a * t ≤ a * b := Int.mul_le_mul_of_nonneg_left h4 ha
  have e3 : (-a) * t ≤ s * t := Int.mul_le_mul_of_nonneg_right h1 h3
  have e4 : (-a) * t = -(a * t) := Int.neg_mul a t
  omega
theorem lag_le {c s t : Int} (hc : 0 ≤ c) (hc2 : c ≤ 5000) (h1 : -900 ≤ s) (h2 : s ≤ 900) (ht : 0 ≤ t) (ht2 : t ≤ 8001) : lagI c s t ≤ 12201 := by
  have hb := mul_bound (a := 900) (b := 8001) h1 h2 ht ht2
  unfold lagI
  generalize s * t = p at hb
  rw [td1000]
  split <;> split <;> omega
/-- the lag by Int32, as both programs work it out -/
theorem lag_32 {c s t : Int32} (hc : 0 ≤ c.toInt) (hc2 : c.toInt ≤ 5000) (h1 : -900 ≤ s.toInt) (h2 : s.toInt ≤ 900) (ht : 0 ≤ t.toInt) (ht2 : t.toInt ≤ 8001) : (c + s * t / 1000).toInt = c.toInt + (s.toInt * t.toInt).tdiv 1000 := by
  have hb := mul_bound (a := 900) (b := 8001) h1 h2 ht ht2
  have e1 : (s * t).toInt = s.toInt * t.toInt := i_mul rfl rfl ⟨by omega, by omega⟩
  have e2 : (s * t / 1000).toInt = (s.toInt * t.toInt).tdiv 1000 := i_div e1 (by decide) (tdiv_in ⟨by omega, by omega⟩)
  refine i_add rfl e2 ?_
  generalize s.toInt * t.toInt = p at hb
  rw [td1000]
  unfold inI
  split <;> constructor <;> omega
def LagsOK (con par : Nat → Int) : Prop := ∀ d, d < 3 → 0 ≤ con d ∧ con d ≤ 5000 ∧ -900 ≤ par d ∧ par d ≤ 900
theorem n_lagX {s : RT} {con par : Nat → Int} {d : Nat} {t : Int32} {K : Int32 → Prop} (hL : LagsOK con par) (hc : ∀ d, d < 3 → (s.1 6 d).toInt = con d) (hp : ∀ d, d < 3 → (s.1 7 d).toInt = par d) (hd : d < 3) (ht : 0 ≤ t.toInt) (ht2 : t.toInt ≤ 8001) (h : K (iz (lagI (con d) (par d) t.toInt))) : wp_X3_lagAt s (nI d) t K := by
  obtain ⟨b1, b2, b3, b4⟩ := hL d hd
  refine n_pick (by decide) (n_pick (by decide) ?_)
  rw [pk_n (by decide) hd, pk_n (by decide) hd]
  have e := lag_32 (c := s.1 6 d) (s := s.1 7 d) (t := t) (by rw [hc d hd]; exact b1) (by rw [hc d hd]; exact b2) (by rw [hp d hd]; exact b3) (by rw [hp d hd]; exact b4) ht ht2
  have el : (if (0 : Int32) < (s.1 6 d + (s.1 7 d * t) / (1000 : Int32)) then (s.1 6 d + (s.1 7 d * t) / (1000 : Int32)) else (0 : Int32)) = iz (lagI (con d) (par d) t.toInt) := by
    have hle := lag_le (t := t.toInt) b1 b2 b3 b4 ht ht2
    have hnn := lag_nn (c := con d) (s := par d) (t := t.toInt)
    apply i_ext
    rw [iz_toInt ⟨by omega, by omega⟩]
    unfold lagI
    rw [← hc d hd, ← hp d hd]
    by_cases h0 : (0 : Int32) < (s.1 6 d + (s.1 7 d * t) / (1000 : Int32))
    · rw [if_pos h0, e]
      rw [i_lt, e] at h0
      rw [if_pos (by simpa using h0)]
    · rw [if_neg h0]
      rw [i_lt, e] at h0
      rw [if_neg (by simpa using h0)]
      rfl
  rw [el]
  exact h
/-- the first time behind b at which the time less the lag is b at least; 8001: none -/
def isFirst (c s : Int) (b T : Nat) : Prop := b < T ∧ T ≤ 8001 ∧ (T ≤ 8000 → (b : Int) ≤ T - lagI c s T) ∧ ∀ t : Nat, b < t → t < T → (t : Int) - lagI c s t < b
def srch (c s : Int) (b : Nat) : Nat → Nat → Nat
  | 0, t => t
  | n + 1, t => if (b : Int) ≤ t - lagI c s t then t else srch c s b n (t + 1)
def firstT (c s : Int) (b : Nat) : Nat := srch c s b (8000 - b) (b + 1)
theorem srch_first {c s : Int} {b : Nat} : ∀ (n t : Nat), b < t → t + n = 8001 → (∀ u : Nat, b < u → u < t → (u : Int) - lagI c s u < b) → isFirst c s b (srch c s b n t) := by
  intro n
  induction n with
  | zero => intro t h1 h2 h3; exact ⟨h1, by simp only [srch]; omega, by simp only [srch]; omega, h3⟩
  | succ n ih =>
    intro t h1 h2 h3
    unfold srch
    by_cases h : (b : Int) ≤ t - lagI c s t
    · rw [if_pos h]; exact ⟨h1, by omega, fun _ => h, h3⟩
    · rw [if_neg h]
      refine ih (t + 1) (by omega) (by omega) (fun u hu1 hu2 => ?_)
      by_cases e : u = t
      · subst e; omega
      · exact h3 u hu1 (by omega)
theorem firstT_ok {c s : Int} {b : Nat} (hb : b ≤ 8000) : isFirst c s b (firstT c s b) := srch_first _ _ (by omega) (by omega) (fun u h1 h2 => by omega)
theorem first_mono {c s : Int} {b T t : Nat} (h1 : -900 ≤ s) (h2 : s ≤ 900) (hT : isFirst c s b T) (h8 : T ≤ 8000) (ht : T ≤ t) : (b : Int) ≤ t - lagI c s t := by
  induction t with
  | zero => have := hT.1; omega
  | succ t ih =>
    by_cases e : T = t + 1
    · rw [← e]; exact hT.2.2.1 h8
    · have := ih (by omega)
      have h3 := lag_step (c := c) (t := (t : Int)) h1 h2
      push_cast
      omega
def madeN (c s : Int) (b : Nat) : Nat := if 8000 < firstT c s b ∨ lagI c s (firstT c s b) = 0 then 0 else firstT c s b
