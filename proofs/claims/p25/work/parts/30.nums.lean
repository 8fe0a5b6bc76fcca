/-! numbers: Int32 and Int64 by their integers -/
def inI (z : Int) : Prop := -2147483648 ≤ z ∧ z ≤ 2147483647
def inL (z : Int) : Prop := -9223372036854775808 ≤ z ∧ z ≤ 9223372036854775807
abbrev iz (z : Int) : Int32 := Int32.ofInt z
abbrev lz (z : Int) : Int64 := Int64.ofInt z
theorem iz_toInt {z : Int} (h : inI z) : (iz z).toInt = z := Int32.toInt_ofInt_of_le (by have := h.1; omega) (by have := h.2; omega)
theorem lz_toInt {z : Int} (h : inL z) : (lz z).toInt = z := Int64.toInt_ofInt_of_le (by have := h.1; omega) (by have := h.2; omega)
theorem iz_of (x : Int32) : iz x.toInt = x := Int32.ofInt_toInt x
theorem lz_of (x : Int64) : lz x.toInt = x := Int64.ofInt_toInt x
theorem i_in (x : Int32) : inI x.toInt := ⟨by have := Int32.le_toInt x; omega, by have := Int32.toInt_lt x; omega⟩
theorem l_in (x : Int64) : inL x.toInt := ⟨by have := Int64.le_toInt x; omega, by have := Int64.toInt_lt x; omega⟩
theorem i_ext {x y : Int32} (h : x.toInt = y.toInt) : x = y := Int32.toInt_inj.mp h
theorem l_ext {x y : Int64} (h : x.toInt = y.toInt) : x = y := Int64.toInt_inj.mp h
theorem i_add {x y : Int32} {a b : Int} (hx : x.toInt = a) (hy : y.toInt = b) (h : inI (a + b)) : (x + y).toInt = a + b := by
  rw [Int32.toInt_add, hx, hy]
  exact Int.bmod_eq_of_le (by have := h.1; omega) (by have := h.2; omega)
theorem i_sub {x y : Int32} {a b : Int} (hx : x.toInt = a) (hy : y.toInt = b) (h : inI (a - b)) : (x - y).toInt = a - b := by
  rw [Int32.toInt_sub, hx, hy]
  exact Int.bmod_eq_of_le (by have := h.1; omega) (by have := h.2; omega)
theorem i_mul {x y : Int32} {a b : Int} (hx : x.toInt = a) (hy : y.toInt = b) (h : inI (a * b)) : (x * y).toInt = a * b := by
  rw [Int32.toInt_mul, hx, hy]
  exact Int.bmod_eq_of_le (by have := h.1; omega) (by have := h.2; omega)
theorem l_add {x y : Int64} {a b : Int} (hx : x.toInt = a) (hy : y.toInt = b) (h : inL (a + b)) : (x + y).toInt = a + b := by
  rw [Int64.toInt_add, hx, hy]
  exact Int.bmod_eq_of_le (by have := h.1; omega) (by have := h.2; omega)
theorem l_sub {x y : Int64} {a b : Int} (hx : x.toInt = a) (hy : y.toInt = b) (h : inL (a - b)) : (x - y).toInt = a - b := by
  rw [Int64.toInt_sub, hx, hy]
  exact Int.bmod_eq_of_le (by have := h.1; omega) (by have := h.2; omega)
theorem l_mul {x y : Int64} {a b : Int} (hx : x.toInt = a) (hy : y.toInt = b) (h : inL (a * b)) : (x * y).toInt = a * b := by
  rw [Int64.toInt_mul, hx, hy]
  exact Int.bmod_eq_of_le (by have := h.1; omega) (by have := h.2; omega)
theorem l_neg {x : Int64} {a : Int} (hx : x.toInt = a) (h : inL (-a)) : (-x).toInt = -a := by
  rw [Int64.toInt_neg, hx]
  exact Int.bmod_eq_of_le (by have := h.1; omega) (by have := h.2; omega)
theorem i_div {x y : Int32} {a b : Int} (hx : x.toInt = a) (hy : y.toInt = b) (h : inI (a.tdiv b)) : (x / y).toInt = a.tdiv b := by
  rw [Int32.toInt_div, hx, hy]
  exact Int.bmod_eq_of_le (by have := h.1; omega) (by have := h.2; omega)
theorem l_div {x y : Int64} {a b : Int} (hx : x.toInt = a) (hy : y.toInt = b) (h : inL (a.tdiv b)) : (x / y).toInt = a.tdiv b := by
  rw [Int64.toInt_div, hx, hy]
  exact Int.bmod_eq_of_le (by have := h.1; omega) (by have := h.2; omega)
theorem i_lt {x y : Int32} : x < y ↔ x.toInt < y.toInt := Int32.lt_iff_toInt_lt
theorem i_le {x y : Int32} : x ≤ y ↔ x.toInt ≤ y.toInt := Int32.le_iff_toInt_le
theorem i_eq {x y : Int32} : x = y ↔ x.toInt = y.toInt := Int32.toInt_inj.symm
theorem l_lt {x y : Int64} : x < y ↔ x.toInt < y.toInt := Int64.lt_iff_toInt_lt
theorem l_le {x y : Int64} : x ≤ y ↔ x.toInt ≤ y.toInt := Int64.le_iff_toInt_le
theorem l_eq {x y : Int64} : x = y ↔ x.toInt = y.toInt := Int64.toInt_inj.symm
theorem nI_int {n : Nat} (h : n < 2147483648) : (nI n).toInt = (n : Int) := nI_toInt h
theorem i2l (x : Int32) : x.toInt64.toInt = x.toInt := Int32.toInt_toInt64 x
theorem l2i {x : Int64} (h : inI x.toInt) : x.toInt32.toInt = x.toInt := by
  rw [Int64.toInt_toInt32]
  exact Int.bmod_eq_of_le (by have := h.1; omega) (by have := h.2; omega)
theorem nI_of_int {x : Int32} (h : 0 ≤ x.toInt) : ∃ n : Nat, n < 2147483648 ∧ x = nI n := nI_of (fun q => by rw [i_lt] at q; simp at q; omega)
theorem tdiv_in {a b : Int} (h : -2147483647 ≤ a ∧ a ≤ 2147483647) : inI (a.tdiv b) := by
  have h3 : (a.tdiv b).natAbs ≤ a.natAbs := Int.natAbs_tdiv_le_natAbs a b
  exact ⟨by omega, by omega⟩
theorem tdiv_inL {a b : Int} (h : -9223372036854775807 ≤ a ∧ a ≤ 9223372036854775807) : inL (a.tdiv b) := by
  have h3 : (a.tdiv b).natAbs ≤ a.natAbs := Int.natAbs_tdiv_le_natAbs a b
  exact ⟨by omega, by omega⟩
theorem tdiv_abs (a b : Int) : (a.tdiv b).natAbs ≤ a.natAbs := Int.natAbs_tdiv_le_natAbs a b
theorem lgc_lt {x y : Int64} : lg_cmp x y < 0 ↔ x.toInt < y.toInt := by
  unfold lg_cmp
  rw [← l_lt]
  by_cases h : y < x
  · simp only [h, if_true]
    constructor
    · intro h2; exact absurd h2 (by decide)
    · intro h2; rw [l_lt] at h h2; omega
  · by_cases h2 : x = y
    · subst h2
      simp [h]
    · have h3 : x < y := by rw [l_lt] at h ⊢; rw [l_eq] at h2; omega
      simp [h, h2, h3]
theorem lgc_ge {x y : Int64} : 0 ≤ lg_cmp x y ↔ y.toInt ≤ x.toInt := by
  rw [← Int32.not_lt, lgc_lt]; omega
theorem lgc_le {x y : Int64} : lg_cmp x y ≤ 0 ↔ x.toInt ≤ y.toInt := by
  unfold lg_cmp
  by_cases h : y < x
  · simp only [h, if_true]
    constructor
    · intro h2; exact absurd h2 (by decide)
    · intro h2; rw [l_lt] at h; omega
  · by_cases h2 : x = y
    · subst h2
      simp [h]
    · have h3 : x.toInt ≤ y.toInt := by rw [l_lt] at h; omega
      simp [h, h2, h3]
theorem lgc_gt {x y : Int64} : 0 < lg_cmp x y ↔ y.toInt < x.toInt := by
  rw [← Int32.not_le, lgc_le]; omega
theorem lgc_eq {x y : Int64} : lg_cmp x y = 0 ↔ x = y := by
  unfold lg_cmp
  by_cases h : y < x
  · have h2 : ¬ x = y := by intro e; subst e; rw [l_lt] at h; omega
    simp [h, h2]
  · by_cases h2 : x = y
    · subst h2; simp [h]
    · simp [h, h2]
