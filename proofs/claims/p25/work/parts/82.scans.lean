/-! crossings and greatest values -/
theorem stT_uniq {n : Nat} {g : Nat → Int32} {t : Int} {u : Nat} (hP : POK n g) (h0 : 0 < t) (h1 : t ≤ (g (n * 8)).toInt) (hu : u < n) (a : (g (u * 8)).toInt < t) (b : t ≤ (g ((u + 1) * 8)).toInt) : stT n g t = u := by
  obtain ⟨a1, a2, a3⟩ := stT_in hP h0 h1
  rcases Nat.lt_trichotomy (stT n g t) u with w | w | w
  · have : (g ((stT n g t + 1) * 8)).toInt ≤ (g (u * 8)).toInt := by
      by_cases e : stT n g t + 1 = u
      · rw [e]; exact Int.le_refl _
      · have := POK_mono hP (show stT n g t + 1 < u by omega) (by omega); omega
    omega
  · exact w
  · have : (g ((u + 1) * 8)).toInt ≤ (g (stT n g t * 8)).toInt := by
      by_cases e : u + 1 = stT n g t
      · rw [e]; exact Int.le_refl _
      · have := POK_mono hP (show u + 1 < stT n g t by omega) (by omega); omega
    omega
theorem stT_0 {n : Nat} {g : Nat → Int32} (hP : POK n g) {t : Int} (ht : t ≤ 0) : stT n g t = 0 := by
  obtain ⟨a, b, c⟩ := stT_ok n g t
  rcases Nat.eq_zero_or_pos (stT n g t) with w | w
  · exact w
  · have h1 := b 0 w
    have h2 := POK_nn hP (show 0 + 1 ≤ n by omega)
    omega
/-- the step of the next tick -/
theorem stT_next {n : Nat} {g : Nat → Int32} {t : Nat} (hP : POK n g) (h1 : ((t + 1 : Nat) : Int) ≤ (g (n * 8)).toInt) : (((t + 1 : Nat) : Int) ≤ (g ((stT n g (t : Int) + 1) * 8)).toInt → stT n g ((t + 1 : Nat) : Int) = stT n g (t : Int)) ∧ (¬ ((t + 1 : Nat) : Int) ≤ (g ((stT n g (t : Int) + 1) * 8)).toInt → stT n g ((t + 1 : Nat) : Int) = stT n g (t : Int) + 1) ∧ stT n g (t : Int) < n := by
  have hn0 : 0 < n := by
    rcases Nat.eq_zero_or_pos n with w | w
    · subst w
      rw [show 0 * 8 = 0 from rfl, hP.1] at h1
      simp only [Int32.toInt_zero] at h1
      omega
    · exact w
  have hu : stT n g (t : Int) < n ∧ (g (stT n g (t : Int) * 8)).toInt ≤ t ∧ (t : Int) ≤ (g ((stT n g (t : Int) + 1) * 8)).toInt := by
    by_cases e : t = 0
    · subst e
      rw [stT_0 hP (by omega)]
      have := POK_nn hP (show 0 + 1 ≤ n by omega)
      refine ⟨hn0, ?_, by omega⟩
      rw [show 0 * 8 = 0 from rfl, hP.1]
      simp only [Int32.toInt_zero]
      omega
    · obtain ⟨a, b, c⟩ := stT_in hP (t := (t : Int)) (by omega) (by omega)
      exact ⟨a, by omega, c⟩
  obtain ⟨u1, u2, u3⟩ := hu
  refine ⟨fun q => stT_uniq hP (by omega) h1 u1 (by omega) q, fun q => ?_, u1⟩
  have hlt : stT n g (t : Int) + 1 < n := by
    rcases Nat.lt_or_ge (stT n g (t : Int) + 1) n with w | w
    · exact w
    · exfalso
      rw [show stT n g (t : Int) + 1 = n by omega] at q
      exact q h1
  have h2 := (hP.2.2.2 (stT n g (t : Int) + 1) hlt).1
  exact stT_uniq hP (by omega) h1 hlt (by omega) (by omega)
theorem n_valS {s : RT} {P : PB} {n : Nat} {g : Nat → Int32} {v t : Nat} {K : Int32 → Prop} (hP : POKp P) (hX : PX s n g) (hG : POK n g) (h0 : Row0 P g) (hv : v < 3) (h8 : t ≤ 8000) (ht : (t : Int) ≤ (g (n * 8)).toInt) (h : K (iz (tvZ P n g v (nI t)))) : wp_X4_valueIn s (nI (stT n g (t : Int))) (nI v) (nI t) K := by
  have et : (nI t).toInt = (t : Int) := nI_int (by omega)
  unfold tvZ toldZ at h
  rw [et] at h
  by_cases e : t = 0
  · subst e
    rw [stT_0 hG (by omega)]
    rw [if_neg (by omega)] at h
    by_cases hn : n = 0
    · refine n_valueInX0 hX hG hn hv ?_
      rw [h0 v hv]
      exact h
    · refine n_valueInX hX hG (show 0 < n by omega) hv ?_
      have eb := valZ_begin hG (show 0 < n by omega) hv
      rw [show 0 * 8 = 0 from rfl, hG.1] at eb
      rw [show nI 0 = (0 : Int32) from rfl, eb, show 0 + 1 + v = 1 + v by omega, h0 v hv, hvZ_0 hP.2.2.1 hv]
      exact h
  · rw [if_pos (by omega)] at h
    exact n_valueInX hX hG (stT_in hG (by omega) ht).1 hv h
def crN (tv : Nat → Int) (lv : Int) (te : Nat) : Nat → Nat → Int32
  | 0, _ => -2000000004
  | f + 1, t => if te < t then -2000000004 else if lv ≤ tv t ∧ tv (t - 1) < lv then nI t else crN tv lv te f (t + 1)
theorem iz_cmp {a : Int32} {z : Int} (hz : bd2 z) : a ≤ iz z ↔ a.toInt ≤ z := by rw [i_le, iz_r2 hz]
theorem bd1_bd2 {z : Int} (h : -1000000000 ≤ z ∧ z ≤ 1000000000) : bd2 z := ⟨by omega, by omega⟩
