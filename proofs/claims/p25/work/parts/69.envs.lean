/-! what a right side uses at a time -/
def lgI (P : PB) (d : Nat) (t : Int32) : Int32 := iz (lagI (bc P d) (bp P d) t.toInt)
def envF (P : PB) (va sl : Nat → Int32 → Int) (t : Int32) (p : Nat) : Int := if p < 3 then va p t else if p = 3 then t.toInt else if p < 13 then va ((p - 4) % 3) (t - lgI P ((p - 4) / 3) t) else sl ((p - 13) % 3) (t - lgI P ((p - 13) / 3) t)
theorem envF_v {P : PB} {va sl : Nat → Int32 → Int} {t : Int32} {v : Nat} (hv : v < 3) : envF P va sl t v = va v t := if_pos hv
theorem envF_t {P : PB} {va sl : Nat → Int32 → Int} {t : Int32} : envF P va sl t 3 = t.toInt := by unfold envF; rw [if_neg (by decide), if_pos rfl]
theorem envF_p {P : PB} {va sl : Nat → Int32 → Int} {t : Int32} {d v : Nat} (hd : d < 3) (hv : v < 3) : envF P va sl t (4 + d * 3 + v) = va v (t - lgI P d t) := by
  unfold envF
  rw [if_neg (by omega), if_neg (by omega), if_pos (by omega), show (4 + d * 3 + v - 4) % 3 = v by omega, show (4 + d * 3 + v - 4) / 3 = d by omega]
theorem envF_s {P : PB} {va sl : Nat → Int32 → Int} {t : Int32} {d v : Nat} (hd : d < 3) (hv : v < 3) : envF P va sl t (13 + d * 3 + v) = sl v (t - lgI P d t) := by
  unfold envF
  rw [if_neg (by omega), if_neg (by omega), if_neg (by omega), show (13 + d * 3 + v - 13) % 3 = v by omega, show (13 + d * 3 + v - 13) / 3 = d by omega]
theorem lg_in {P : PB} {d : Nat} {t : Int32} (hP : POKp P) (hd : d < 3) (h0 : 0 ≤ t.toInt) (h8 : t.toInt ≤ 8001) : (lgI P d t).toInt = lagI (bc P d) (bp P d) t.toInt ∧ 0 ≤ (lgI P d t).toInt ∧ (lgI P d t).toInt ≤ 12201 := by
  obtain ⟨b1, b2, b3, b4⟩ := hP.2.1 d hd
  have h1 := lag_le (t := t.toInt) b1 b2 b3 b4 h0 h8
  have h2 := lag_nn (c := bc P d) (s := bp P d) (t := t.toInt)
  have e : (lgI P d t).toInt = lagI (bc P d) (bp P d) t.toInt := iz_toInt ⟨by omega, by omega⟩
  rw [e]
  exact ⟨rfl, h2, h1⟩
theorem past_in {P : PB} {d : Nat} {t : Int32} (hP : POKp P) (hd : d < 3) (h0 : 0 ≤ t.toInt) (h8 : t.toInt ≤ 8001) : (t - lgI P d t).toInt = t.toInt - (lgI P d t).toInt ∧ (t - lgI P d t).toInt ≤ t.toInt ∧ -12201 ≤ (t - lgI P d t).toInt := by
  obtain ⟨a, b, c⟩ := lg_in hP hd h0 h8
  have e := i_sub (x := t) (y := lgI P d t) rfl rfl ⟨by omega, by omega⟩
  omega
theorem envF_bd {P : PB} {va sl : Nat → Int32 → Int} {t : Int32} (hP : POKp P) (h0 : 0 ≤ t.toInt) (h8 : t.toInt ≤ 8001) (hva : ∀ v u, v < 3 → u.toInt ≤ t.toInt → bd2 (va v u)) (hsl : ∀ v u, v < 3 → u.toInt ≤ t.toInt → bd2 (sl v u)) : ∀ p, p < 22 → bd2 (envF P va sl t p) := by
  intro p hp
  unfold envF
  split
  · exact hva p t (by omega) (Int.le_refl _)
  · split
    · exact ⟨by omega, by omega⟩
    · split
      · exact hva _ _ (Nat.mod_lt _ (by decide)) (past_in hP (by omega) h0 h8).2.1
      · exact hsl _ _ (Nat.mod_lt _ (by decide)) (past_in hP (by omega) h0 h8).2.1
/-- told values and slopes; those of a guess, behind the time up to which it is solved -/
def tvZ (P : PB) (n : Nat) (g : Nat → Int32) (v : Nat) (u : Int32) : Int := toldZ (bh P) (bT P) (bV P) n g v u
def tsZ (P : PB) (n : Nat) (g : Nat → Int32) (v : Nat) (u : Int32) : Int := tslpZ (bh P) (bT P) (bV P) n g v u
def gvZ (va : Nat → Int32 → Int) (t0 : Int32) (h : Int) (X G : Nat → Int) (v : Nat) (u : Int32) : Int := if u.toInt ≤ t0.toInt then va v u else hdI (X v + ((G v - X v) * (u.toInt - t0.toInt)).tdiv h)
def gsZ (sl : Nat → Int32 → Int) (t0 : Int32) (h : Int) (X G : Nat → Int) (v : Nat) (u : Int32) : Int := if u.toInt ≤ t0.toInt then sl v u else hdI (((G v - X v) * 1000).tdiv h)
theorem hd_bd (z : Int) : bd2 (hdI z) := by have := hdI_in z; exact ⟨by omega, by omega⟩
theorem tv_bd {P : PB} {n : Nat} {g : Nat → Int32} {v : Nat} {u : Int32} (hP : POKp P) (hv : v < 3) : -1000000000 ≤ tvZ P n g v u ∧ tvZ P n g v u ≤ 1000000000 := by
  unfold tvZ toldZ
  split
  · unfold valZ; exact hdI_in _
  · have := hvZ_in (t := u) hP.2.2.1 hv
    omega
theorem ts_bd {P : PB} {n : Nat} {g : Nat → Int32} {v : Nat} {u : Int32} (hP : POKp P) (hv : v < 3) : bd2 (tsZ P n g v u) := by
  unfold tsZ tslpZ
  split
  · unfold slpZ; exact hd_bd _
  · exact hsZ_in hP.2.2.1 hv
theorem gv_bd {va : Nat → Int32 → Int} {t0 : Int32} {h : Int} {X G : Nat → Int} {v : Nat} {u : Int32} (hb : bd2 (va v u)) : bd2 (gvZ va t0 h X G v u) := by
  unfold gvZ
  split
  · exact hb
  · exact hd_bd _
theorem gs_bd {sl : Nat → Int32 → Int} {t0 : Int32} {h : Int} {X G : Nat → Int} {v : Nat} {u : Int32} (hb : bd2 (sl v u)) : bd2 (gsZ sl t0 h X G v u) := by
  unfold gsZ
  split
  · exact hb
  · exact hd_bd _
/-! the reference -/
theorem l_ne0 {h : Int32} (h0 : 0 < h.toInt) : ¬ h.toInt64 = 0 := by
  rw [l_eq, i2l]
  simp only [Int64.toInt_zero]
  omega
def bd1 (x : Int) : Prop := -1000000000 ≤ x ∧ x ≤ 1000000000
