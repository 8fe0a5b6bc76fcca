/-! what is told of a time -/
def bendG (g : Nat → Int32) (u v : Nat) (h : Int64) : Int64 := ((g ((u + 1) * 8 + 1 + v)).toInt64 - (g (u * 8 + 1 + v)).toInt64) - (((g (u * 8 + 4 + v)).toInt64 * h) / (1000 : Int64))
def eG (g : Nat → Int32) (u : Nat) (t : Int32) : Int64 := (t - g (u * 8)).toInt64
def hG (g : Nat → Int32) (u : Nat) : Int64 := (g ((u + 1) * 8) - g (u * 8)).toInt64
def valZ (g : Nat → Int32) (u v : Nat) (t : Int32) : Int := hdI (((g (u * 8 + 1 + v)).toInt64 + (((g (u * 8 + 4 + v)).toInt64 * eG g u t) / (1000 : Int64))) + (((bendG g u v (hG g u) * eG g u t) * eG g u t) / (hG g u * hG g u))).toInt
def slpZ (g : Nat → Int32) (u v : Nat) (t : Int32) : Int := hdI ((g (u * 8 + 4 + v)).toInt64 + ((((2000 : Int64) * bendG g u v (hG g u)) * eG g u t) / (hG g u * hG g u))).toInt
theorem hG_int {n : Nat} {g : Nat → Int32} (hP : POK n g) {u : Nat} (hu : u < n) : (hG g u).toInt = (g ((u + 1) * 8)).toInt - (g (u * 8)).toInt ∧ 0 < (hG g u).toInt ∧ (hG g u).toInt ≤ 500 := by
  have h1 := hP.2.2.2 u hu
  have h2 := POK_nn hP (show u ≤ n by omega)
  have h3 := (hP.2.2.1 (u + 1) (by omega)).1
  have e : (hG g u).toInt = (g ((u + 1) * 8)).toInt - (g (u * 8)).toInt := by
    unfold hG
    rw [i2l, i_sub rfl rfl ⟨by omega, by omega⟩]
  omega
theorem eG_int {n : Nat} {g : Nat → Int32} (hP : POK n g) {u : Nat} (hu : u < n) {t : Int32} (h0 : 0 ≤ t.toInt) : (eG g u t).toInt = t.toInt - (g (u * 8)).toInt := by
  have h1 := POK_nn hP (show u ≤ n by omega)
  have h2 := (hP.2.2.1 u (by omega)).1
  have h3 := i_in t
  unfold eG
  rw [i2l, i_sub rfl rfl ⟨by omega, by have := h3.2; omega⟩]
theorem sq_int {h : Int64} (h0 : 0 < h.toInt) (h5 : h.toInt ≤ 500) : (h * h).toInt = h.toInt * h.toInt ∧ 0 < h.toInt * h.toInt ∧ h.toInt * h.toInt ≤ 250000 := by
  have a := mul_bound (s := h.toInt) (t := h.toInt) (a := 500) (b := 500) (by omega) (by omega) (by omega) h5
  have b : 0 < h.toInt * h.toInt := Int.mul_pos h0 h0
  exact ⟨l_mul rfl rfl ⟨by omega, by omega⟩, b, by omega⟩
theorem sq_ne {h : Int64} (h0 : 0 < h.toInt) (h5 : h.toInt ≤ 500) : ¬ h * h = 0 := by
  have a := sq_int h0 h5
  rw [l_eq, a.1]
  simp only [Int64.toInt_zero]
  omega
theorem n_bendOf {s : RT} {n : Nat} {g : Nat → Int32} {u v : Nat} {h : Int64} {K : Int64 → Prop} (hX : PX s n g) (hP : POK n g) (hu : u < n) (hv : v < 3) (hK : K (bendG g u v h)) : wp_X4_bendOf s (nI (u * 8)) (nI v) h K := by
  have hn := hP.2.1
  unfold wp_X4_bendOf
  rw [ix88, ix81, ix81, ix84]
  refine n_pick (by decide) (n_pick (by decide) ?_)
  rw [pk_n (by decide) (by omega), hX.2 _ (by omega), pk_n (by decide) (by omega), hX.2 _ (by omega)]
  intro x3 hx3
  subst hx3
  refine n_pick (by decide) ?_
  rw [pk_n (by decide) (by omega), hX.2 _ (by omega)]
  exact hK
theorem n_valueInX {s : RT} {n : Nat} {g : Nat → Int32} {u v : Nat} {t : Int32} {K : Int32 → Prop} (hX : PX s n g) (hP : POK n g) (hu : u < n) (hv : v < 3) (hK : K (iz (valZ g u v t))) : wp_X4_valueIn s (nI u) (nI v) t K := by
  have hn := hP.2.1
  intro x1 hx1
  rw [ix8] at hx1
  subst hx1
  rw [ix81, ix84, ix88]
  refine n_pick (by decide) ?_
  rw [pk_n (by decide) (by omega), hX.2 _ (by omega)]
  intro x3 hx3
  subst hx3
  rw [hX.1]
  refine ⟨fun _ => ?_, fun q => absurd ((nI_ltI (by omega) (by omega)).mpr hu) q⟩
  refine n_pick (by decide) ?_
  rw [pk_n (by decide) (by omega), hX.2 _ (by omega)]
  intro x6 hx6
  subst hx6
  refine n_pick (by decide) (n_pick (by decide) ?_)
  rw [pk_n (by decide) (by omega), hX.2 _ (by omega), pk_n (by decide) (by omega), hX.2 _ (by omega)]
  intro x9 hx9
  subst hx9
  refine n_pick (by decide) ?_
  rw [pk_n (by decide) (by omega), hX.2 _ (by omega)]
  intro x11 hx11
  subst hx11
  refine n_bendOf hX hP hu hv (n_quot ?_)
  have hh := hG_int hP hu
  have hne := sq_ne (h := hG g u) hh.2.1 hh.2.2
  unfold hG at hne
  rw [if_neg hne]
  exact n_hold hK
theorem n_valueInX0 {s : RT} {n : Nat} {g : Nat → Int32} {v : Nat} {t : Int32} {K : Int32 → Prop} (hX : PX s n g) (hP : POK n g) (hn0 : n = 0) (hv : v < 3) (hK : K (g (1 + v))) : wp_X4_valueIn s (nI 0) (nI v) t K := by
  subst hn0
  intro x1 hx1
  rw [ix8] at hx1
  subst hx1
  rw [ix81]
  refine n_pick (by decide) ?_
  rw [pk_n (by decide) (by omega), hX.2 _ (by omega)]
  intro x3 hx3
  subst hx3
  rw [hX.1]
  refine ⟨fun q => absurd q (nI_nlt (Nat.le_refl 0) (by decide)), fun _ => ?_⟩
  rw [l2i_iz, i2l, iz_of, show 0 * 8 + 1 + v = 1 + v by omega]
  exact hK
theorem n_slopeInX {s : RT} {n : Nat} {g : Nat → Int32} {u v : Nat} {t : Int32} {K : Int32 → Prop} (hX : PX s n g) (hP : POK n g) (hu : u < n) (hv : v < 3) (hK : K (iz (slpZ g u v t))) : wp_X4_slopeIn s (nI u) (nI v) t K := by
  have hn := hP.2.1
  unfold wp_X4_slopeIn
  rw [hX.1]
  refine ⟨fun _ => ?_, fun q => absurd ((nI_ltI (by omega) (by omega)).mpr hu) q⟩
  intro x1 hx1
  rw [ix8] at hx1
  subst hx1
  rw [ix84, ix88]
  refine n_pick (by decide) ?_
  rw [pk_n (by decide) (by omega), hX.2 _ (by omega)]
  intro x6 hx6
  subst hx6
  refine n_pick (by decide) (n_pick (by decide) ?_)
  rw [pk_n (by decide) (by omega), hX.2 _ (by omega), pk_n (by decide) (by omega), hX.2 _ (by omega)]
  intro x9 hx9
  subst hx9
  refine n_bendOf hX hP hu hv ?_
  intro x9 hx9
  subst hx9
  refine n_pick (by decide) ?_
  rw [pk_n (by decide) (by omega), hX.2 _ (by omega)]
  refine n_quot ?_
  have hh := hG_int hP hu
  have hne := sq_ne (h := hG g u) hh.2.1 hh.2.2
  unfold hG at hne
  rw [if_neg hne]
  exact n_hold hK
theorem mul_b2 {s t a b : Int} (h1 : -a ≤ s) (h2 : s ≤ a) (h3 : 0 ≤ t) (h4 : t ≤ b) (hab : a * b ≤ 1000000000000000) : -1000000000000000 ≤ s * t ∧ s * t ≤ 1000000000000000 := by
  have := mul_bound h1 h2 h3 h4
  omega
/-- the value at the end of a step -/
theorem valZ_end {n : Nat} {g : Nat → Int32} (hP : POK n g) {u v : Nat} (hu : u < n) (hv : v < 3) : valZ g u v (g ((u + 1) * 8)) = (g ((u + 1) * 8 + 1 + v)).toInt := by
  have hh := hG_int hP hu
  have e1 : eG g u (g ((u + 1) * 8)) = hG g u := rfl
  unfold valZ
  rw [e1]
  unfold bendG
  have y1 := (hP.2.2.1 u (by omega)).2 v hv
  have y2 := (hP.2.2.1 (u + 1) (by omega)).2 v hv
  have k1 := (hP.2.2.2 u hu).2.2 v hv
  have sq := sq_int hh.2.1 hh.2.2
  generalize hG g u = h at hh sq ⊢
  have a1 := i2l (g (u * 8 + 1 + v))
  have a2 := i2l (g ((u + 1) * 8 + 1 + v))
  have a3 := i2l (g (u * 8 + 4 + v))
  generalize (g (u * 8 + 1 + v)).toInt64 = A1 at a1 ⊢
  generalize (g ((u + 1) * 8 + 1 + v)).toInt64 = A2 at a2 ⊢
  generalize (g (u * 8 + 4 + v)).toInt64 = A3 at a3 ⊢
  generalize (g (u * 8 + 1 + v)).toInt = z1 at *
  generalize (g ((u + 1) * 8 + 1 + v)).toInt = z2 at *
  generalize (g (u * 8 + 4 + v)).toInt = z3 at *
  have b1 := mul_b2 (s := z3) (t := h.toInt) (a := 2000000000) (b := 500) (by omega) (by omega) (by omega) (by omega) (by omega)
  have b1' := mul_bound (s := z3) (t := h.toInt) (a := 2000000000) (b := 500) (by omega) (by omega) (by omega) (by omega)
  have q1 : (A3 * h).toInt = z3 * h.toInt := l_mul a3 rfl ⟨by omega, by omega⟩
  have q2 : ((A3 * h) / 1000).toInt = (z3 * h.toInt).tdiv 1000 := l_div q1 (by decide) (tdiv_inL ⟨by omega, by omega⟩)
  have q3 : -1000000000 ≤ (z3 * h.toInt).tdiv 1000 ∧ (z3 * h.toInt).tdiv 1000 ≤ 1000000000 := by
    generalize z3 * h.toInt = p at b1'
    rw [td1000]
    split <;> omega
  generalize (z3 * h.toInt).tdiv 1000 = q at q2 q3
  generalize (A3 * h) / 1000 = Q at q2
  have q4 : (A2 - A1).toInt = z2 - z1 := l_sub a2 a1 ⟨by omega, by omega⟩
  have q5 : (A2 - A1 - Q).toInt = z2 - z1 - q := l_sub q4 q2 ⟨by omega, by omega⟩
  have q6 : (A1 + Q).toInt = z1 + q := l_add a1 q2 ⟨by omega, by omega⟩
  generalize A2 - A1 - Q = B at q5
  have b2 := mul_bound (s := z2 - z1 - q) (t := h.toInt) (a := 3000000000) (b := 500) (by omega) (by omega) (by omega) (by omega)
  have q7 : (B * h).toInt = (z2 - z1 - q) * h.toInt := l_mul q5 rfl ⟨by omega, by omega⟩
  have b3 := mul_bound (s := (z2 - z1 - q) * h.toInt) (t := h.toInt) (a := 1500000000000) (b := 500) (by omega) (by omega) (by omega) (by omega)
  have q8 : (B * h * h).toInt = (z2 - z1 - q) * h.toInt * h.toInt := l_mul q7 rfl ⟨by omega, by omega⟩
  have q9 : ((B * h * h) / (h * h)).toInt = ((z2 - z1 - q) * h.toInt * h.toInt).tdiv (h.toInt * h.toInt) := l_div q8 sq.1 (tdiv_inL ⟨by omega, by omega⟩)
  rw [Int.mul_assoc, Int.mul_tdiv_cancel _ (by omega)] at q9
  have q10 : (A1 + Q + (B * h * h) / (h * h)).toInt = z1 + q + (z2 - z1 - q) := l_add q6 q9 ⟨by omega, by omega⟩
  rw [q10, show z1 + q + (z2 - z1 - q) = z2 by omega, hdI_id (by omega)]
/-- the value at its beginning -/
theorem valZ_begin {n : Nat} {g : Nat → Int32} (hP : POK n g) {u v : Nat} (hu : u < n) (hv : v < 3) : valZ g u v (g (u * 8)) = (g (u * 8 + 1 + v)).toInt := by
  have y1 := (hP.2.2.1 u (by omega)).2 v hv
  have e1 : eG g u (g (u * 8)) = 0 := by unfold eG; rw [Int32.sub_self]; rfl
  unfold valZ
  rw [e1, Int64.mul_zero, Int64.zero_div, Int64.add_zero, Int64.mul_zero, Int64.zero_div, Int64.add_zero, i2l, hdI_id (by omega)]
