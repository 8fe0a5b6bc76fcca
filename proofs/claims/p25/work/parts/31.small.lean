/-! the small methods, in plain words -/
def pk (z : Nat) (f : Nat → Int32) (i : Int32) : Int32 := if i < 0 then 0 else if nI z ≤ i then 0 else f i.toNatClampNeg
def pt (z : Nat) (f : Nat → Int32) (i x : Int32) : Nat → Int32 := if i < 0 then f else if nI z ≤ i then f else upd f i.toNatClampNeg x
theorem vp_of {z : Nat} {i : Int32} (hz : z < 2147483648) (h1 : ¬ i < 0) (h2 : ¬ nI z ≤ i) : vp_in i z := by
  obtain ⟨j, hj, rfl⟩ := nI_of h1
  have : ¬ z ≤ j := fun h => h2 ((nI_leI hz hj).mpr h)
  exact vp_in_nI (by omega) (by omega)
theorem n_pick {z : Nat} {f : Nat → Int32} {i : Int32} {K : Int32 → Prop} (hz : z < 2147483648) (h : K (pk z f i)) : wp_X9_pick z f i K := by
  unfold wp_X9_pick
  unfold pk at h
  refine ⟨fun h1 => by rwa [if_pos h1] at h, fun h1 => ⟨fun h2 => by rwa [if_neg h1, if_pos h2] at h, fun h2 => ⟨vp_of hz h1 h2, by rwa [if_neg h1, if_neg h2] at h⟩⟩⟩
theorem n_pickRo {z : Nat} {f : Nat → Int32} {i : Int32} {K : Int32 → Prop} (hz : z < 2147483648) (h : K (pk z f i)) : wp_X9_pickRo z f i K := by
  unfold wp_X9_pickRo
  unfold pk at h
  refine ⟨fun h1 => by rwa [if_pos h1] at h, fun h1 => ⟨fun h2 => by rwa [if_neg h1, if_pos h2] at h, fun h2 => ⟨vp_of hz h1 h2, by rwa [if_neg h1, if_neg h2] at h⟩⟩⟩
theorem n_put {z : Nat} {f : Nat → Int32} {i x : Int32} {K : (Nat → Int32) → Prop} (hz : z < 2147483648) (h : K (pt z f i x)) : wp_X9_put z f i x K := by
  unfold wp_X9_put
  unfold pt at h
  refine ⟨fun h1 => by rwa [if_pos h1] at h, fun h1 => ⟨fun h2 => by rwa [if_neg h1, if_pos h2] at h, fun h2 => ⟨vp_of hz h1 h2, fun f3 e => by rw [e]; rwa [if_neg h1, if_neg h2] at h⟩⟩⟩
theorem pk_n {z j : Nat} {f : Nat → Int32} (hz : z < 2147483648) (hj : j < z) : pk z f (nI j) = f j := by
  unfold pk
  rw [if_neg (nI_pos (by omega)), if_neg (fun h => by have := (nI_leI (by omega) (by omega)).mp h; omega), nI_clamp (by omega)]
theorem pk_out {z j : Nat} {f : Nat → Int32} (hj : z ≤ j) (hb : j < 2147483648) : pk z f (nI j) = 0 := by
  unfold pk
  rw [if_neg (nI_pos (by omega)), if_pos ((nI_leI (by omega) (by omega)).mpr hj)]
theorem pt_n {z j : Nat} {f : Nat → Int32} {x : Int32} (hz : z < 2147483648) (hj : j < z) : pt z f (nI j) x = upd f j x := by
  unfold pt
  rw [if_neg (nI_pos (by omega)), if_neg (fun h => by have := (nI_leI (by omega) (by omega)).mp h; omega), nI_clamp (by omega)]
def hdI (z : Int) : Int := if z < -1000000000 then -1000000000 else if 1000000000 < z then 1000000000 else z
theorem hdI_in (z : Int) : -1000000000 ≤ hdI z ∧ hdI z ≤ 1000000000 := by
  unfold hdI
  split
  · omega
  · split <;> omega
theorem hdI_inI (z : Int) : inI (hdI z) := by have := hdI_in z; exact ⟨by omega, by omega⟩
theorem hdI_inL (z : Int) : inL (hdI z) := by have := hdI_in z; exact ⟨by omega, by omega⟩
theorem hdI_id {z : Int} (h : -1000000000 ≤ z ∧ z ≤ 1000000000) : hdI z = z := by unfold hdI; rw [if_neg (by omega), if_neg (by omega)]
theorem n_hold {x : Int64} {K : Int32 → Prop} (h : K (iz (hdI x.toInt))) : wp_X9_hold x K := by
  have e1 : (-1000000000 : Int64).toInt = -1000000000 := by decide
  have e2 : (1000000000 : Int64).toInt = 1000000000 := by decide
  unfold wp_X9_hold
  unfold hdI at h
  rw [lgc_ge, lgc_le, e1, e2]
  refine ⟨fun h1 => ⟨fun h2 => ?_, fun h2 => ?_⟩, fun h1 => ?_⟩
  · rw [if_neg (by omega), if_neg (by omega)] at h
    have e : x.toInt32 = iz x.toInt := i_ext (by rw [l2i ⟨by omega, by omega⟩, iz_toInt ⟨by omega, by omega⟩])
    rw [e]; exact h
  · rw [if_neg (by omega), if_pos (by omega)] at h; exact h
  · rw [if_pos (by omega)] at h; exact h
theorem n_quot {x y : Int64} {K : Int64 → Prop} (h : K (if y = 0 then 0 else x / y)) : wp_X9_quotient x y K := by
  unfold wp_X9_quotient
  rw [lgc_eq]
  refine ⟨fun h1 => ⟨h1, by rwa [if_neg h1] at h⟩, fun h1 => by rwa [if_pos h1] at h⟩
def b2 (b : Bool) : Int32 := if b then 1 else 0
theorem b2_nar (b : Bool) : narrow .boolean (.int (b2 b)) = .int (b2 b) := by cases b <;> rfl
theorem b2_0 {b : Bool} : b2 b = 0 ↔ b = false := by cases b <;> decide
def wi (x lo hi : Int32) : Bool := decide (lo.toInt ≤ x.toInt) && decide (x.toInt ≤ hi.toInt)
theorem n_isWithin {x lo hi : Int32} {K : Int32 → Prop} (h : K (b2 (wi x lo hi))) : wp_X9_isWithin x lo hi K := by
  unfold wp_X9_isWithin
  unfold wi at h
  rw [i_lt, i_lt]
  refine ⟨fun h1 => ?_, fun h1 => ⟨fun h2 => ?_, fun h2 => ?_⟩⟩
  · rw [decide_eq_false (by omega), Bool.false_and] at h; exact h
  · rw [decide_eq_false (p := x.toInt ≤ hi.toInt) (by omega), Bool.and_false] at h; exact h
  · rw [decide_eq_true (by omega), decide_eq_true (by omega)] at h; exact h
theorem n_isVariable {x : Int32} {K : Int32 → Prop} (h : K (b2 (wi x 0 2))) : wp_X9_isVariable x K := n_isWithin ⟨b2_nar _, h⟩
theorem n_isDelay {x : Int32} {K : Int32 → Prop} (h : K (b2 (wi x 0 2))) : wp_X9_isDelay x K := n_isWithin ⟨b2_nar _, h⟩
theorem wi02 {x : Int32} (h : wi x 0 2 = true) : ∃ v : Nat, v < 3 ∧ x = nI v := by
  unfold wi at h
  simp only [Bool.and_eq_true, decide_eq_true_eq] at h
  have e0 : (0 : Int32).toInt = 0 := by decide
  have e2 : (2 : Int32).toInt = 2 := by decide
  rw [e0, e2] at h
  obtain ⟨n, hn, rfl⟩ := nI_of_int h.1
  rw [nI_int hn] at h
  exact ⟨n, by omega, rfl⟩
def mkroom (f : Nat → Int32) (a b : Nat) : Nat → Int32 := fun j => if a < j ∧ j ≤ b then f (j - 1) else f j
theorem n_makeRoom {z : Nat} {f : Nat → Int32} {a b : Nat} {K : (Nat → Int32) → Prop} (hz : z < 2147483648) (hb : b < z) (hab : a ≤ b) (h : K (mkroom f a b)) : wp_X9_makeRoom z f (nI a) (nI b) K := by
  have key : ∀ (q c : Nat) (g : Nat → Int32), c ≤ b → a ≤ c → c - a ≤ q → (mkroom f a b = mkroom g a c) → lp_X9_makeRoom_2 z (nI a) (nI b) K (q + 1) (nI c) g := by
    intro q
    induction q with
    | zero =>
      intro c g hc hac hq he
      have e : c = a := by omega
      subst e
      refine ⟨fun _ => ?_, fun h1 => absurd (nI_le (Nat.le_refl c) (by omega)) h1⟩
      have : mkroom g c c = g := by funext j; unfold mkroom; rw [if_neg (by omega)]
      rw [← this, ← he]; exact h
    | succ q ih =>
      intro c g hc hac hq he
      refine ⟨fun h1 => ?_, fun h1 => ?_⟩
      · have e : c = a := by have := (nI_leI (by omega) (by omega)).mp h1; omega
        subst e
        have : mkroom g c c = g := by funext j; unfold mkroom; rw [if_neg (by omega)]
        rw [← this, ← he]; exact h
      · have hlt : a < c := by
          rcases Nat.lt_or_ge a c with h2 | h2
          · exact h2
          · exact absurd (nI_le h2 (by omega)) h1
        have e1 : nI c - (1 : Int32) = nI (c - 1) := by rw [show (1 : Int32) = nI 1 from rfl, pk_sub (by omega)]
        rw [e1]
        refine n_pick hz (n_put hz ?_)
        intro x4 hx
        have e2 : x4 = nI (c - 1) := by
          rw [hx, show nI c = nI (c - 1 + 1) by rw [Nat.sub_add_cancel (by omega)], pk_m1]
        subst e2
        rw [pk_n hz (by omega), pt_n hz (by omega)]
        refine ih (c - 1) _ (by omega) (by omega) (by omega) ?_
        rw [he]
        funext j
        unfold mkroom upd
        by_cases h3 : a < j ∧ j ≤ c - 1
        · rw [if_pos (by omega), if_pos h3, if_neg (by omega)]
        · by_cases h4 : j = c
          · subst h4
            rw [if_pos (by omega), if_neg h3, if_pos rfl]
          · rw [if_neg (by omega), if_neg h3, if_neg h4]
  exact ⟨b - a + 1, key (b - a) b f (Nat.le_refl b) hab (Nat.le_refl _) rfl⟩
theorem n_copyRow {y z n : Nat} {g f : Nat → Int32} {K : (Nat → Int32) → Prop} (hn : n ≤ y) (hz : n ≤ z) (hy : y < 2147483648) (hz2 : z < 2147483648) (h : K (fun j => if j < n then g j else f j)) : wp_X9_copyRow y g z f (nI n) K := by
  intro x1 hx
  have e : x1 = nI n := by
    rw [hx]
    have h1 : (if nI z < nI y then nI z else nI y) = nI (if z < y then z else y) := by
      by_cases h1 : z < y
      · rw [if_pos ((nI_ltI (by omega) (by omega)).mpr h1), if_pos h1]
      · rw [if_neg (fun q => h1 ((nI_ltI (by omega) (by omega)).mp q)), if_neg h1]
    rw [h1]
    have h2 : n ≤ (if z < y then z else y) := by split <;> omega
    have h3 : (if z < y then z else y) < 2147483648 := by split <;> omega
    exact if_neg (fun q => by have := (nI_ltI (by omega) (by omega)).mp q; omega)
  subst e
  refine ⟨fun h1 => ?_, fun h1 => ⟨nI_pos (by omega), by rw [nI_clamp (by omega)]; exact hn, by rw [nI_clamp (by omega)]; exact hz, fun f3 e3 => ?_⟩⟩
  · have : n = 0 := by
      have := (nI_leI (a := n) (b := 0) (by omega) (by omega)).mp h1
      omega
    subst this
    have e4 : (fun j => if j < 0 then g j else f j) = f := by funext j; rw [if_neg (by omega)]
    rw [e4] at h; exact h
  · rw [e3, nI_clamp (by omega)]
    have e4 : va_cpy g f 0 0 n = (fun j => if j < n then g j else f j) := by
      funext j
      unfold va_cpy
      by_cases hj : j < n
      · rw [if_pos (by omega), if_pos hj]; congr 1; omega
      · rw [if_neg (by omega), if_neg hj]
    rw [e4]; exact h
