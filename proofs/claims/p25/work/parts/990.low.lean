/-! the law's small methods -/
theorem and_nn (v : Int32) : 0 ≤ (v &&& (2147483647 : Int32)).toInt := by
  have h : (v &&& (2147483647 : Int32)).toBitVec.msb = false := by
    rw [Int32.toBitVec_and, BitVec.msb_and]
    have : (2147483647 : Int32).toBitVec.msb = false := by decide
    rw [this, Bool.and_false]
  show 0 ≤ (v &&& (2147483647 : Int32)).toBitVec.toInt
  rw [BitVec.toInt_eq_toNat_of_msb h]
  exact Int.natCast_nonneg _
def lowN (v : Int32) (m : Nat) : Nat := (v &&& (2147483647 : Int32)).toInt.toNat % m
theorem lowN_lt {v : Int32} {m : Nat} (hm : 0 < m) : lowN v m < m := Nat.mod_lt _ hm
theorem nI_div {u m : Nat} (hu : u < 2147483648) (hm : m < 2147483648) : nI u / nI m = nI (u / m) := by
  have h1 : u / m ≤ u := Nat.div_le_self u m
  have e : ((u : Int)).tdiv (m : Int) = ((u / m : Nat) : Int) := by rw [Int.tdiv_eq_ediv_of_nonneg (Int.natCast_nonneg u)]; rfl
  generalize u / m = q at h1 e
  have hin : inI ((u : Int).tdiv (m : Int)) := by
    rw [e]
    clear e
    exact ⟨by omega, by omega⟩
  apply i_ext
  rw [i_div (nI_int hu) (nI_int hm) hin, e, nI_int (by omega)]
theorem n_low {v : Int32} {m : Nat} {K : Int32 → Prop} (h0 : 0 < m) (hm : m < 2147483648) (h : K (nI (lowN v m))) : wp_L_low v (nI m) K := by
  refine ⟨fun q => ?_, ?_⟩
  · have := (nI_eq (b := 0) (by omega) (by decide)).mp q
    omega
  · obtain ⟨u, hu, e⟩ := nI_of_int (and_nn v)
    unfold lowN at h
    rw [e] at h ⊢
    rw [nI_int hu] at h
    have h1 : u / m * m ≤ u := Nat.div_mul_le_self u m
    rw [nI_div hu hm, pk_mul, pk_sub h1]
    have e2 : u - u / m * m = u % m := by
      have := Nat.div_add_mod u m
      rw [Nat.mul_comm] at this
      omega
    rw [e2]
    exact h
theorem n_near {v : Int32} {m : Nat} {K : Int32 → Prop} (h0 : 0 < m) (hm : m < 2147483648) (h : ∀ r, K r) : wp_L_near v (nI m) K := by
  refine n_low (m := 40) (by decide) (by decide) ⟨fun _ => ⟨fun _ => ⟨fun _ => n_low h0 hm (h _), fun _ => h _⟩, fun _ => h _⟩, fun _ => h _⟩
theorem n_isError {v : Int32} {K : Int32 → Prop} (h1 : ErrV v → K 1) (h0 : ¬ ErrV v → K 0) : wp_L_isError v K := by
  have e1 : (-2000000001 : Int32).toInt = -2000000001 := by decide
  have e4 : (-2000000004 : Int32).toInt = -2000000004 := by decide
  refine ⟨fun q => h0 (fun w => ?_), fun q => ⟨fun q2 => h0 (fun w => ?_), fun q2 => h1 ⟨?_, ?_⟩⟩⟩
  · rw [i_lt, e1] at q; have := w.2; omega
  · rw [i_lt, e4] at q2; have := w.1; omega
  · rw [i_lt, e4] at q2; omega
  · rw [i_lt, e1] at q; omega
theorem n_cell {z i : Nat} {f : Nat → Int32} {K : Int32 → Prop} (hz : z < 2147483648) (hi : i < 2147483648) (h : ∀ r, K r) : wp_L_cell z f (nI i) K := by
  refine ⟨fun _ => h _, fun q => ⟨vp_in_nI ?_ hz, h _⟩⟩
  rcases Nat.lt_or_ge i z with w | w
  · exact w
  · exact absurd (nI_le w hi) q
