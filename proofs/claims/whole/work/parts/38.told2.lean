/-! the same of both programs, histories and steps together -/
def toldZ (c : Nat → Nat) (T V : Nat → Nat → Int32) (n : Nat) (g : Nat → Int32) (v : Nat) (t : Int32) : Int := if 0 < t.toInt then valZ g (stT n g t.toInt) v t else hvZ (c v) (T v) (V v) t
def tslpZ (c : Nat → Nat) (T V : Nat → Nat → Int32) (n : Nat) (g : Nat → Int32) (v : Nat) (t : Int32) : Int := if 0 < t.toInt then slpZ g (stT n g t.toInt) v t else hsZ (c v) (T v) (V v) t
theorem i_pos {t : Int32} : 0 < t ↔ 0 < t.toInt := by rw [i_lt]; simp only [Int32.toInt_zero]
theorem n_valueIn {s : RT} {c : Nat → Nat} {T V : Nat → Nat → Int32} {n : Nat} {g : Nat → Int32} {v : Nat} {t : Int32} {K : Int32 → Prop} (hH : HX s c T V) (hO : HOK c T V) (hX : PX s n g) (hP : POK n g) (hv : v < 3) (ht : t.toInt ≤ (g (n * 8)).toInt) (hK : K (iz (toldZ c T V n g v t))) : wp_X6_valueIn s (nI (stT n g t.toInt)) (nI v) t K := by
  unfold toldZ at hK
  refine ⟨fun q => ?_, fun q => ?_⟩
  · have q' := i_pos.mp q
    rw [if_pos q'] at hK
    exact n_valueInX hX hP (stT_in hP q' ht).1 hv hK
  · rw [i_pos] at q
    rw [if_neg q] at hK
    exact n_valueAtX hH hO hv hK
theorem n_slopeIn {s : RT} {c : Nat → Nat} {T V : Nat → Nat → Int32} {n : Nat} {g : Nat → Int32} {v : Nat} {t : Int32} {K : Int32 → Prop} (hH : HX s c T V) (hO : HOK c T V) (hX : PX s n g) (hP : POK n g) (hv : v < 3) (ht : t.toInt ≤ (g (n * 8)).toInt) (hK : K (iz (tslpZ c T V n g v t))) : wp_X6_slopeIn s (nI (stT n g t.toInt)) (nI v) t K := by
  unfold tslpZ at hK
  refine ⟨fun q => ?_, fun q => ?_⟩
  · have q' := i_pos.mp q
    rw [if_pos q'] at hK
    exact n_slopeInX hX hP (stT_in hP q' ht).1 hv hK
  · rw [i_pos] at q
    rw [if_neg q] at hK
    exact n_slopeAtX hH hO hv hK
theorem ix3 (u v : Nat) : (3 : Int32) * nI u + nI v = nI (3 * u + v) := by rw [show (3 : Int32) = nI 3 from rfl, pk_mul, nI_add]
theorem n_bendM {s : RT} {n : Nat} {g : Nat → Int32} {u v : Nat} {K : Int64 → Prop} (hM : PM s n g) (hP : POK n g) (hu : u < n) (hv : v < 3) (hK : K (bendG g u v (hG g u))) : wp_X10_bend s (nI u) (nI v) K := by
  have hn := hP.2.1
  obtain ⟨m1, m2, m3, m4⟩ := hM.2.2 u hu
  obtain ⟨m5, m6, m7⟩ := m4 v hv
  unfold wp_X10_bend
  rw [ix3, nI_clamp (by omega), nI_clamp (by omega), m5, m6, m7, m2]
  exact ⟨vp_in_nI (by omega) (by decide), vp_in_nI (by omega) (by decide), vp_in_nI (by omega) (by decide), vp_in_nI (by omega) (by decide), hK⟩
theorem n_toldValue {s : RT} {c : Nat → Nat} {T V : Nat → Nat → Int32} {n : Nat} {g : Nat → Int32} {v : Nat} {t : Int32} {K : Int64 → Prop} (hH : HM (s.1 1) c T V) (hO : HOK c T V) (hM : PM s n g) (hP : POK n g) (hv : v < 3) (ht : t.toInt ≤ (g (n * 8)).toInt) (hK : K (lz (toldZ c T V n g v t))) : wp_X10_toldValue s (nI v) t K := by
  have hn := hP.2.1
  unfold toldZ at hK
  refine ⟨fun q => ?_, fun q => ?_⟩
  · have q' := i_pos.mp q
    rw [if_pos q'] at hK
    obtain ⟨a1, a2, a3⟩ := stT_in hP q' ht
    refine n_stepOf hM hP (by omega) ?_
    generalize stT n g t.toInt = u at *
    obtain ⟨m1, m2, m3, m4⟩ := hM.2.2 u a1
    obtain ⟨m5, m6, m7⟩ := m4 v hv
    rw [ix3, nI_clamp (by omega), nI_clamp (by omega), m5, m6, m7, m2, m1]
    refine ⟨vp_in_nI (by omega) (by decide), fun x3 hx3 => ⟨vp_in_nI (by omega) (by decide), fun x4 hx4 => ?_⟩⟩
    have hh := hG_int hP a1
    have he := eG_int hP a1 (show 0 ≤ t.toInt by omega)
    have e3 : x3 = eG g u t := hx3
    have e4 : x4 = hG g u := hx4
    subst e3; subst e4
    refine ⟨fun q2 => ⟨vp_in_nI (by omega) (by decide), vp_in_nI (by omega) (by decide), n_bendM hM hP a1 hv ⟨sq_ne hh.2.1 hh.2.2, n_held hK⟩⟩, fun q2 => ⟨vp_in_nI (by omega) (by decide), ?_⟩⟩
    rw [lgc_eq, l_eq, hh.1, he] at q2
    have et : t = g ((u + 1) * 8) := by rw [i_eq]; omega
    rw [et, valZ_end hP a1 hv] at hK
    rw [i2l_lz]; exact hK
  · rw [i_pos] at q
    rw [if_neg q] at hK
    exact n_histM hH hO hv hK
theorem n_toldSlope {s : RT} {c : Nat → Nat} {T V : Nat → Nat → Int32} {n : Nat} {g : Nat → Int32} {v : Nat} {t : Int32} {K : Int64 → Prop} (hH : HM (s.1 1) c T V) (hO : HOK c T V) (hM : PM s n g) (hP : POK n g) (hv : v < 3) (ht : t.toInt ≤ (g (n * 8)).toInt) (hK : K (lz (tslpZ c T V n g v t))) : wp_X10_toldSlope s (nI v) t K := by
  have hn := hP.2.1
  unfold tslpZ at hK
  refine ⟨fun q => ?_, fun q => ?_⟩
  · have q' := i_pos.mp q
    rw [if_pos q'] at hK
    obtain ⟨a1, a2, a3⟩ := stT_in hP q' ht
    refine n_stepOf hM hP (by omega) ?_
    generalize stT n g t.toInt = u at *
    obtain ⟨m1, m2, m3, m4⟩ := hM.2.2 u a1
    obtain ⟨m5, m6, m7⟩ := m4 v hv
    rw [ix3, nI_clamp (by omega), nI_clamp (by omega), m6, m2, m1]
    refine ⟨vp_in_nI (by omega) (by decide), fun x3 hx3 => ⟨vp_in_nI (by omega) (by decide), fun x4 hx4 => ?_⟩⟩
    have hh := hG_int hP a1
    have e3 : x3 = eG g u t := hx3
    have e4 : x4 = hG g u := hx4
    subst e3; subst e4
    exact ⟨vp_in_nI (by omega) (by decide), n_bendM hM hP a1 hv ⟨sq_ne hh.2.1 hh.2.2, n_held hK⟩⟩
  · rw [i_pos] at q
    rw [if_neg q] at hK
    exact n_hslopeM hH hO hv hK
/-! bounds -/
theorem natAbs_scale {r p q : Int} {m : Nat} (h1 : r.natAbs ≤ m) (h0 : 0 ≤ p) (hpq : p ≤ q) (hq : 0 < q) : ((r * p).tdiv q).natAbs ≤ m := by
  rw [Int.natAbs_tdiv, Int.natAbs_mul]
  have h2 : r.natAbs * p.natAbs ≤ m * q.natAbs := Nat.mul_le_mul h1 (by omega)
  show r.natAbs * p.natAbs / q.natAbs ≤ m
  exact Nat.div_le_of_le_mul (by rw [Nat.mul_comm q.natAbs]; exact h2)
theorem hvZ_in {c : Nat → Nat} {T V : Nat → Nat → Int32} {v : Nat} {t : Int32} (hO : HOK c T V) (hv : v < 3) : -3000000 ≤ hvZ (c v) (T v) (V v) t ∧ hvZ (c v) (T v) (V v) t ≤ 3000000 := by
  unfold hvZ
  obtain ⟨u1, u2, u3⟩ := upT_ok (T v) t (c v)
  generalize upT (T v) t (c v) = u at u1 u2 u3
  have hb := (hO v hv).2.1
  split
  · omega
  · split
    · have := hb 0 (by omega); omega
    · split
      · have := hb (u - 1) (by omega); omega
      · have b1 := hb (u - 1) (by omega)
        have b2 := hb u (by omega)
        have hlt := u3 (by omega)
        have hge := u2 (u - 1) (by omega)
        rw [i_lt] at hlt hge
        have e1 : ((V v u).toInt64 - (V v (u - 1)).toInt64).toInt = (V v u).toInt - (V v (u - 1)).toInt := l_sub (i2l _) (i2l _) ⟨by omega, by omega⟩
        have e2 : (t.toInt64 - (T v (u - 1)).toInt64).toInt = t.toInt - (T v (u - 1)).toInt := l_sub (i2l _) (i2l _) ⟨by omega, by omega⟩
        have e3 : ((T v u).toInt64 - (T v (u - 1)).toInt64).toInt = (T v u).toInt - (T v (u - 1)).toInt := l_sub (i2l _) (i2l _) ⟨by omega, by omega⟩
        have mb := mul_bound (s := (V v u).toInt - (V v (u - 1)).toInt) (t := t.toInt - (T v (u - 1)).toInt) (a := 2000000) (b := 10000) (by omega) (by omega) (by omega) (by omega)
        have e4 := l_mul e1 e2 ⟨by omega, by omega⟩
        have e5 := l_div e4 e3 (tdiv_inL ⟨by omega, by omega⟩)
        have sc := natAbs_scale (r := (V v u).toInt - (V v (u - 1)).toInt) (p := t.toInt - (T v (u - 1)).toInt) (q := (T v u).toInt - (T v (u - 1)).toInt) (m := 2000000) (by omega) (by omega) (by omega) (by omega)
        rw [l_add (i2l _) e5 ⟨by omega, by omega⟩]
        omega
theorem hvZ_0 {c : Nat → Nat} {T V : Nat → Nat → Int32} {v : Nat} {t : Int32} (hO : HOK c T V) (hv : v < 3) : (iz (hvZ (c v) (T v) (V v) t)).toInt = hvZ (c v) (T v) (V v) t := by
  have := hvZ_in (t := t) hO hv
  exact iz_toInt ⟨by omega, by omega⟩
theorem hsZ_in {c : Nat → Nat} {T V : Nat → Nat → Int32} {v : Nat} {t : Int32} (hO : HOK c T V) (hv : v < 3) : -2000000000 ≤ hsZ (c v) (T v) (V v) t ∧ hsZ (c v) (T v) (V v) t ≤ 2000000000 := by
  unfold hsZ
  obtain ⟨u1, u2, u3⟩ := upT_ok (T v) t (c v)
  generalize upT (T v) t (c v) = u at u1 u2 u3
  have hb := (hO v hv).2.1
  split
  · omega
  · split
    · omega
    · have b1 := hb (u - 1) (by omega)
      have b2 := hb u (by omega)
      have hm := HOK_mono hO hv (show u - 1 < u by omega) (by omega)
      have e1 : ((V v u).toInt64 - (V v (u - 1)).toInt64).toInt = (V v u).toInt - (V v (u - 1)).toInt := l_sub (i2l _) (i2l _) ⟨by omega, by omega⟩
      have e3 : ((T v u).toInt64 - (T v (u - 1)).toInt64).toInt = (T v u).toInt - (T v (u - 1)).toInt := l_sub (i2l _) (i2l _) ⟨by omega, by omega⟩
      have e4 := l_mul e1 (show (1000 : Int64).toInt = 1000 by decide) ⟨by omega, by omega⟩
      have e5 := l_div e4 e3 (tdiv_inL ⟨by omega, by omega⟩)
      have sc := tdiv_abs (((V v u).toInt - (V v (u - 1)).toInt) * 1000) ((T v u).toInt - (T v (u - 1)).toInt)
      rw [e5]
      omega
