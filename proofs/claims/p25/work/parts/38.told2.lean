/-! the same of both programs, histories and steps together -/
def toldZ (c : Nat → Nat) (T V : Nat → Nat → Int32) (n : Nat) (g : Nat → Int32) (v : Nat) (t : Int32) : Int := if 0 < t.toInt then valZ g (stT n g t.toInt) v t else hvZ (c v) (T v) (V v) t
def tslpZ (c : Nat → Nat) (T V : Nat → Nat → Int32) (n : Nat) (g : Nat → Int32) (v : Nat) (t : Int32) : Int := if 0 < t.toInt then slpZ g (stT n g t.toInt) v t else hsZ (c v) (T v) (V v) t
theorem i_pos {t : Int32} : 0 < t ↔ 0 < t.toInt := by rw [i_lt]; simp only [Int32.toInt_zero]
theorem n_valueIn {s : RT} {c : Nat → Nat} {T V : Nat → Nat → Int32} {n : Nat} {g : Nat → Int32} {v : Nat} {t : Int32} {K : Int32 → Prop} (hH : HX s c T V) (hO : HOK c T V) (hX : PX s n g) (hP : POK n g) (hv : v < 3) (ht : t.toInt ≤ (g (n * 8)).toInt) (hK : K (iz (toldZ c T V n g v t))) : wp_X6_valueIn s (nI (stT n g t.toInt)) (nI v) t K := by
  unfold toldZ at hK
  refine ⟨fun q => ?_, fun q => ?_⟩
  · have q' := i_pos.mp q
    rw [if_pos q'] at hK
    exact n_valueInX hX hP (stT_in hP q' ht).1 hv hK
  · rw [i_pos] at q
    rw [if_neg q] at hK
    exact n_valueAtX hH hO hv hK
theorem n_slopeIn {s : RT} {c : Nat → Nat} {T V : Nat → Nat → Int32} {n : Nat} {g : Nat → Int32} {v : Nat} {t : Int32} {K : Int32 → Prop} (hH : HX s c T V) (hO : HOK c T V) (hX : PX s n g) (hP : POK n g) (hv : v < 3) (ht : t.toInt ≤ (g (n * 8)).toInt) (hK : K (iz (tslpZ c T V n g v t))) : wp_X6_slopeIn s (nI (stT n g t.toInt)) (nI v) t K := by
  unfold tslpZ at hK
  refine ⟨fun q => ?_, fun q => ?_⟩
  · have q' := i_pos.mp q
    rw [if_pos q'] at hK
    exact n_slopeInX hX hP (stT_in hP q' ht).1 hv hK
  · rw [i_pos] at q
    rw [if_neg q] at hK
    exact n_slopeAtX hH hO hv hK
theorem ix3 (u v : Nat) : (3 : Int32) * nI u + nI v = nI (3 * u + v) := by rw [show (3 : Int32) = nI 3 from rfl, pk_mul, nI_add]
/-! bounds -/
theorem natAbs_scale {r p q : Int} {m : Nat} (h1 : r.natAbs ≤ m) (h0 : 0 ≤ p) (hpq : p ≤ q) (hq : 0 < q) : ((r * p).tdiv q).natAbs ≤ m := by
  rw [Int.natAbs_tdiv, Int.natAbs_mul]
  have h2 : r.natAbs * p.natAbs ≤ m * q.natAbs := Nat.mul_le_mul h1 (by omega)
  show r.natAbs * p.natAbs / q.natAbs ≤ m
  exact Nat.div_le_of_le_mul (by rw [Nat.mul_comm q.natAbs]; exact h2)
theorem hvZ_in {c : Nat → Nat} {T V : Nat → Nat → Int32} {v : Nat} {t : Int32} (hO : HOK c T V) (hv : v < 3) : -3000000 ≤ hvZ (c v) (T v) (V v) t ∧ hvZ (c v) (T v) (V v) t ≤ 3000000 := by
  unfold hvZ
  obtain ⟨u1, u2, u3⟩ := upT_ok (T v) t (c v)
  generalize upT (T v) t (c v) = u at u1 u2 u3
  have hb := (hO v hv).2.1
  split
  · omega
  · split
    · have := hb 0 (by omega); omega
    · split
      · have := hb (u - 1) (by omega); omega
      · have b1 := hb (u - 1) (by omega)
        have b2 := hb u (by omega)
        have hlt := u3 (by omega)
        have hge := u2 (u - 1) (by omega)
        rw [i_lt] at hlt hge
        have e1 : ((V v u).toInt64 - (V v (u - 1)).toInt64).toInt = (V v u).toInt - (V v (u - 1)).toInt := l_sub (i2l _) (i2l _) ⟨by omega, by omega⟩
        have e2 : (t.toInt64 - (T v (u - 1)).toInt64).toInt = t.toInt - (T v (u - 1)).toInt := l_sub (i2l _) (i2l _) ⟨by omega, by omega⟩
        have e3 : ((T v u).toInt64 - (T v (u - 1)).toInt64).toInt = (T v u).toInt - (T v (u - 1)).toInt := l_sub (i2l _) (i2l _) ⟨by omega, by omega⟩
        have mb := mul_bound (s := (V v u).toInt - (V v (u - 1)).toInt) (t := t.toInt - (T v (u - 1)).toInt) (a := 2000000) (b := 10000) (by omega) (by omega) (by omega) (by omega)
        have e4 := l_mul e1 e2 ⟨by omega, by omega⟩
        have e5 := l_div e4 e3 (tdiv_inL ⟨by omega, by omega⟩)
        have sc := natAbs_scale (r := (V v u).toInt - (V v (u - 1)).toInt) (p := t.toInt - (T v (u - 1)).toInt) (q := (T v u).toInt - (T v (u - 1)).toInt) (m := 2000000) (by omega) (by omega) (by omega) (by omega)
        rw [l_add (i2l _) e5 ⟨by omega, by omega⟩]
        omega
theorem hvZ_0 {c : Nat → Nat} {T V : Nat → Nat → Int32} {v : Nat} {t : Int32} (hO : HOK c T V) (hv : v < 3) : (iz (hvZ (c v) (T v) (V v) t)).toInt = hvZ (c v) (T v) (V v) t := by
  have := hvZ_in (t := t) hO hv
  exact iz_toInt ⟨by omega, by omega⟩
theorem hsZ_in {c : Nat → Nat} {T V : Nat → Nat → Int32} {v : Nat} {t : Int32} (hO : HOK c T V) (hv : v < 3) : -2000000000 ≤ hsZ (c v) (T v) (V v) t ∧ hsZ (c v) (T v) (V v) t ≤ 2000000000 := by
  unfold hsZ
  obtain ⟨u1, u2, u3⟩ := upT_ok (T v) t (c v)
  generalize upT (T v) t (c v) = u at u1 u2 u3
  have hb := (hO v hv).2.1
  split
  · omega
  · split
    · omega
    · have b1 := hb (u - 1) (by omega)
      have b2 := hb u (by omega)
      have hm := HOK_mono hO hv (show u - 1 < u by omega) (by omega)
      have e1 : ((V v u).toInt64 - (V v (u - 1)).toInt64).toInt = (V v u).toInt - (V v (u - 1)).toInt := l_sub (i2l _) (i2l _) ⟨by omega, by omega⟩
      have e3 : ((T v u).toInt64 - (T v (u - 1)).toInt64).toInt = (T v u).toInt - (T v (u - 1)).toInt := l_sub (i2l _) (i2l _) ⟨by omega, by omega⟩
      have e4 := l_mul e1 (show (1000 : Int64).toInt = 1000 by decide) ⟨by omega, by omega⟩
      have e5 := l_div e4 e3 (tdiv_inL ⟨by omega, by omega⟩)
      have sc := tdiv_abs (((V v u).toInt - (V v (u - 1)).toInt) * 1000) ((T v u).toInt - (T v (u - 1)).toInt)
      rw [e5]
      omega
