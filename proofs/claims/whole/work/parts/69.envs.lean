/-! what a right side uses at a time -/
def lgI (P : PB) (d : Nat) (t : Int32) : Int32 := iz (lagI (bc P d) (bp P d) t.toInt)
def envF (P : PB) (va sl : Nat → Int32 → Int) (t : Int32) (p : Nat) : Int := if p < 3 then va p t else if p = 3 then t.toInt else if p < 13 then va ((p - 4) % 3) (t - lgI P ((p - 4) / 3) t) else sl ((p - 13) % 3) (t - lgI P ((p - 13) / 3) t)
theorem envF_v {P : PB} {va sl : Nat → Int32 → Int} {t : Int32} {v : Nat} (hv : v < 3) : envF P va sl t v = va v t := if_pos hv
theorem envF_t {P : PB} {va sl : Nat → Int32 → Int} {t : Int32} : envF P va sl t 3 = t.toInt := by unfold envF; rw [if_neg (by decide), if_pos rfl]
theorem envF_p {P : PB} {va sl : Nat → Int32 → Int} {t : Int32} {d v : Nat} (hd : d < 3) (hv : v < 3) : envF P va sl t (4 + d * 3 + v) = va v (t - lgI P d t) := by
  unfold envF
  rw [if_neg (by omega), if_neg (by omega), if_pos (by omega), show (4 + d * 3 + v - 4) % 3 = v by omega, show (4 + d * 3 + v - 4) / 3 = d by omega]
theorem envF_s {P : PB} {va sl : Nat → Int32 → Int} {t : Int32} {d v : Nat} (hd : d < 3) (hv : v < 3) : envF P va sl t (13 + d * 3 + v) = sl v (t - lgI P d t) := by
  unfold envF
  rw [if_neg (by omega), if_neg (by omega), if_neg (by omega), show (13 + d * 3 + v - 13) % 3 = v by omega, show (13 + d * 3 + v - 13) / 3 = d by omega]
theorem lg_in {P : PB} {d : Nat} {t : Int32} (hP : POKp P) (hd : d < 3) (h0 : 0 ≤ t.toInt) (h8 : t.toInt ≤ 8001) : (lgI P d t).toInt = lagI (bc P d) (bp P d) t.toInt ∧ 0 ≤ (lgI P d t).toInt ∧ (lgI P d t).toInt ≤ 12201 := by
  obtain ⟨b1, b2, b3, b4⟩ := hP.2.1 d hd
  have h1 := lag_le (t := t.toInt) b1 b2 b3 b4 h0 h8
  have h2 := lag_nn (c := bc P d) (s := bp P d) (t := t.toInt)
  have e : (lgI P d t).toInt = lagI (bc P d) (bp P d) t.toInt := iz_toInt ⟨by omega, by omega⟩
  rw [e]
  exact ⟨rfl, h2, h1⟩
theorem past_in {P : PB} {d : Nat} {t : Int32} (hP : POKp P) (hd : d < 3) (h0 : 0 ≤ t.toInt) (h8 : t.toInt ≤ 8001) : (t - lgI P d t).toInt = t.toInt - (lgI P d t).toInt ∧ (t - lgI P d t).toInt ≤ t.toInt ∧ -12201 ≤ (t - lgI P d t).toInt := by
  obtain ⟨a, b, c⟩ := lg_in hP hd h0 h8
  have e := i_sub (x := t) (y := lgI P d t) rfl rfl ⟨by omega, by omega⟩
  omega
theorem envF_bd {P : PB} {va sl : Nat → Int32 → Int} {t : Int32} (hP : POKp P) (h0 : 0 ≤ t.toInt) (h8 : t.toInt ≤ 8001) (hva : ∀ v u, v < 3 → u.toInt ≤ t.toInt → bd2 (va v u)) (hsl : ∀ v u, v < 3 → u.toInt ≤ t.toInt → bd2 (sl v u)) : ∀ p, p < 22 → bd2 (envF P va sl t p) := by
  intro p hp
  unfold envF
  split
  · exact hva p t (by omega) (Int.le_refl _)
  · split
    · exact ⟨by omega, by omega⟩
    · split
      · exact hva _ _ (Nat.mod_lt _ (by decide)) (past_in hP (by omega) h0 h8).2.1
      · exact hsl _ _ (Nat.mod_lt _ (by decide)) (past_in hP (by omega) h0 h8).2.1
/-- told values and slopes; those of a guess, behind the time up to which it is solved -/
def tvZ (P : PB) (n : Nat) (g : Nat → Int32) (v : Nat) (u : Int32) : Int := toldZ (bh P) (bT P) (bV P) n g v u
def tsZ (P : PB) (n : Nat) (g : Nat → Int32) (v : Nat) (u : Int32) : Int := tslpZ (bh P) (bT P) (bV P) n g v u
def gvZ (va : Nat → Int32 → Int) (t0 : Int32) (h : Int) (X G : Nat → Int) (v : Nat) (u : Int32) : Int := if u.toInt ≤ t0.toInt then va v u else hdI (X v + ((G v - X v) * (u.toInt - t0.toInt)).tdiv h)
def gsZ (sl : Nat → Int32 → Int) (t0 : Int32) (h : Int) (X G : Nat → Int) (v : Nat) (u : Int32) : Int := if u.toInt ≤ t0.toInt then sl v u else hdI (((G v - X v) * 1000).tdiv h)
theorem hd_bd (z : Int) : bd2 (hdI z) := by have := hdI_in z; exact ⟨by omega, by omega⟩
theorem tv_bd {P : PB} {n : Nat} {g : Nat → Int32} {v : Nat} {u : Int32} (hP : POKp P) (hv : v < 3) : -1000000000 ≤ tvZ P n g v u ∧ tvZ P n g v u ≤ 1000000000 := by
  unfold tvZ toldZ
  split
  · unfold valZ; exact hdI_in _
  · have := hvZ_in (t := u) hP.2.2.1 hv
    omega
theorem ts_bd {P : PB} {n : Nat} {g : Nat → Int32} {v : Nat} {u : Int32} (hP : POKp P) (hv : v < 3) : bd2 (tsZ P n g v u) := by
  unfold tsZ tslpZ
  split
  · unfold slpZ; exact hd_bd _
  · exact hsZ_in hP.2.2.1 hv
theorem gv_bd {va : Nat → Int32 → Int} {t0 : Int32} {h : Int} {X G : Nat → Int} {v : Nat} {u : Int32} (hb : bd2 (va v u)) : bd2 (gvZ va t0 h X G v u) := by
  unfold gvZ
  split
  · exact hb
  · exact hd_bd _
theorem gs_bd {sl : Nat → Int32 → Int} {t0 : Int32} {h : Int} {X G : Nat → Int} {v : Nat} {u : Int32} (hb : bd2 (sl v u)) : bd2 (gsZ sl t0 h X G v u) := by
  unfold gsZ
  split
  · exact hb
  · exact hd_bd _
/-! the reference -/
theorem EnvM_of {m : RT} {P : PB} {va sl : Nat → Int32 → Int} {t : Int32} (hP : POKp P) (hR : RMp (m.1 1) P) (h0 : 0 ≤ t.toInt) (h8 : t.toInt ≤ 8001)
    (hva : ∀ (y : RT) (v : Nat) (u : Int32) (K : Int64 → Prop), SameV m y → v < 3 → u.toInt ≤ t.toInt → -12201 ≤ u.toInt → K (lz (va v u)) → wp_X10_valueAt y (nI v) u K)
    (hsl : ∀ (y : RT) (v : Nat) (u : Int32) (K : Int64 → Prop), SameV m y → v < 3 → u.toInt ≤ t.toInt → -12201 ≤ u.toInt → K (lz (sl v u)) → wp_X10_slopeAt y (nI v) u K) : EnvM m t (envF P va sl t) := by
  refine ⟨envF_t, fun v hv y K hy hK => ?_, fun d hd => ⟨lgI P d t, fun y K hy hK => ?_, fun v hv => ⟨fun y K hy hK => ?_, fun y K hy hK => ?_⟩⟩⟩
  · rw [envF_v hv] at hK
    exact hva y v t K hy hv (Int.le_refl _) (by omega) hK
  · have e1 : y.1 1 = m.1 1 := hy.1 1 (by decide)
    exact n_lagM hP.2.1 (fun d hd => by rw [e1]; exact hR.2.1 d hd) (fun d hd => by rw [e1]; exact hR.2.2.1 d hd) hd h0 h8 hK
  · rw [envF_p hd hv] at hK
    have := past_in hP hd h0 h8
    exact hva y v _ K hy hv this.2.1 this.2.2 hK
  · rw [envF_s hd hv] at hK
    have := past_in hP hd h0 h8
    exact hsl y v _ K hy hv this.2.1 this.2.2 hK
theorem PM_V {m y : RT} {n : Nat} {g : Nat → Int32} (h : PM m n g) (hy : SameV m y) : PM y n g := by
  obtain ⟨h1, h2, h3⟩ := h
  refine ⟨by rw [hy.2.2 17 (by decide) (by decide)]; exact h1, by rw [hy.2.2 18 (by decide) (by decide)]; exact h2, fun s hs => ?_⟩
  rw [hy.1 9 (by decide), hy.1 10 (by decide), hy.1 11 (by decide), hy.2.1 12 (by decide), hy.2.1 13 (by decide), hy.2.1 14 (by decide)]
  exact h3 s hs
theorem EnvM_told {m : RT} {P : PB} {n : Nat} {g : Nat → Int32} {t : Int32} (hP : POKp P) (hR : RMp (m.1 1) P) (hM : PM m n g) (hG : POK n g) (hg : m.2.2 19 = 0) (h0 : 0 ≤ t.toInt) (ht : t.toInt ≤ (g (n * 8)).toInt) : EnvM m t (envF P (tvZ P n g) (tsZ P n g) t) := by
  have h8 := (hG.2.2.1 n (Nat.le_refl n)).1
  refine EnvM_of hP hR h0 (by omega) (fun y v u K hy hv hu _ hK => ?_) (fun y v u K hy hv hu _ hK => ?_)
  · have e1 : y.1 1 = m.1 1 := hy.1 1 (by decide)
    have e2 : y.2.2 19 = 0 := (hy.2.2 19 (by decide) (by decide)).trans hg
    refine ⟨fun _ => ?_, fun z => absurd e2 z⟩
    exact n_toldValue (by rw [e1]; exact hR.2.2.2.1) hP.2.2.1 (PM_V hM hy) hG hv (by omega) hK
  · have e1 : y.1 1 = m.1 1 := hy.1 1 (by decide)
    have e2 : y.2.2 19 = 0 := (hy.2.2 19 (by decide) (by decide)).trans hg
    refine ⟨fun _ => ?_, fun z => absurd e2 z⟩
    exact n_toldSlope (by rw [e1]; exact hR.2.2.2.1) hP.2.2.1 (PM_V hM hy) hG hv (by omega) hK
theorem l_ne0 {h : Int32} (h0 : 0 < h.toInt) : ¬ h.toInt64 = 0 := by
  rw [l_eq, i2l]
  simp only [Int64.toInt_zero]
  omega
def bd1 (x : Int) : Prop := -1000000000 ≤ x ∧ x ≤ 1000000000
theorem EnvM_guess {m : RT} {P : PB} {n : Nat} {g : Nat → Int32} {t0 h : Int32} {X G : Nat → Int} (hP : POKp P) (hR : RMp (m.1 1) P) (hM : PM m n g) (hG : POK n g) (hg : m.2.2 19 = 1) (h20 : m.2.2 20 = t0) (h21 : m.2.2 21 = h) (hX : ∀ v, v < 3 → m.2.1 15 v = lz (X v) ∧ bd1 (X v)) (hGG : ∀ v, v < 3 → m.2.1 16 v = lz (G v) ∧ bd1 (G v)) (h0 : 0 ≤ t0.toInt) (ht : t0.toInt ≤ (g (n * 8)).toInt) (hh : 0 < h.toInt) (h5 : h.toInt ≤ 500) (h8 : t0.toInt + h.toInt ≤ 8000) : EnvM m (t0 + h) (envF P (gvZ (tvZ P n g) t0 h.toInt X G) (gsZ (tsZ P n g) t0 h.toInt X G) (t0 + h)) := by
  have et : (t0 + h).toInt = t0.toInt + h.toInt := i_add rfl rfl ⟨by omega, by omega⟩
  have e100 : (1 : Int32) ≠ 0 := by decide
  refine EnvM_of hP hR (by omega) (by omega) (fun y v u K hy hv hu hu2 hK => ?_) (fun y v u K hy hv hu hu2 hK => ?_)
  · have e1 : y.1 1 = m.1 1 := hy.1 1 (by decide)
    have e2 : y.2.2 19 = 1 := (hy.2.2 19 (by decide) (by decide)).trans hg
    have e3 : y.2.2 20 = t0 := (hy.2.2 20 (by decide) (by decide)).trans h20
    have e4 : y.2.2 21 = h := (hy.2.2 21 (by decide) (by decide)).trans h21
    have e5 : y.2.1 15 = m.2.1 15 := hy.2.1 15 (by decide)
    have e6 : y.2.1 16 = m.2.1 16 := hy.2.1 16 (by decide)
    unfold gvZ at hK
    unfold wp_X10_valueAt
    rw [e2, e3, e4, e5, e6]
    refine ⟨fun z => absurd z e100, fun _ => ⟨fun z => ?_, fun z => ?_⟩⟩
    · rw [if_pos (i_le.mp z)] at hK
      exact n_toldValue (by rw [e1]; exact hR.2.2.2.1) hP.2.2.1 (PM_V hM hy) hG hv (by have := i_le.mp z; omega) hK
    · rw [i_le] at z
      rw [if_neg z] at hK
      obtain ⟨x1, x2⟩ := hX v hv
      obtain ⟨y1, y2⟩ := hGG v hv
      unfold bd1 at x2 y2
      rw [nI_clamp (by omega), x1, y1]
      have vi := vp_in_nI (n := v) (N := 3) hv (by decide)
      refine ⟨vi, vi, vi, l_ne0 hh, n_held ?_⟩
      have q1 : (lz (G v) - lz (X v)).toInt = G v - X v := l_sub (lz_toInt ⟨by omega, by omega⟩) (lz_toInt ⟨by omega, by omega⟩) ⟨by omega, by omega⟩
      have q2 : (u - t0).toInt64.toInt = u.toInt - t0.toInt := by rw [i2l]; exact i_sub rfl rfl ⟨by omega, by omega⟩
      have mb := mul_bound (s := G v - X v) (t := u.toInt - t0.toInt) (a := 2000000000) (b := 500) (by omega) (by omega) (by omega) (by omega)
      have q3 := l_mul q1 q2 ⟨by omega, by omega⟩
      have q4 := l_div q3 (i2l h) (tdiv_inL ⟨by omega, by omega⟩)
      have sc := natAbs_scale (r := G v - X v) (p := u.toInt - t0.toInt) (q := h.toInt) (m := 2000000000) (by omega) (by omega) (by omega) (by omega)
      have q5 := l_add (lz_toInt (z := X v) ⟨by omega, by omega⟩) q4 ⟨by omega, by omega⟩
      rw [q5]
      exact hK
  · have e1 : y.1 1 = m.1 1 := hy.1 1 (by decide)
    have e2 : y.2.2 19 = 1 := (hy.2.2 19 (by decide) (by decide)).trans hg
    have e3 : y.2.2 20 = t0 := (hy.2.2 20 (by decide) (by decide)).trans h20
    have e4 : y.2.2 21 = h := (hy.2.2 21 (by decide) (by decide)).trans h21
    have e5 : y.2.1 15 = m.2.1 15 := hy.2.1 15 (by decide)
    have e6 : y.2.1 16 = m.2.1 16 := hy.2.1 16 (by decide)
    unfold gsZ at hK
    unfold wp_X10_slopeAt
    rw [e2, e3, e4, e5, e6]
    refine ⟨fun z => absurd z e100, fun _ => ⟨fun z => ?_, fun z => ?_⟩⟩
    · rw [if_pos (i_le.mp z)] at hK
      exact n_toldSlope (by rw [e1]; exact hR.2.2.2.1) hP.2.2.1 (PM_V hM hy) hG hv (by have := i_le.mp z; omega) hK
    · rw [i_le] at z
      rw [if_neg z] at hK
      obtain ⟨x1, x2⟩ := hX v hv
      obtain ⟨y1, y2⟩ := hGG v hv
      unfold bd1 at x2 y2
      rw [nI_clamp (by omega), x1, y1]
      have vi := vp_in_nI (n := v) (N := 3) hv (by decide)
      refine ⟨vi, vi, l_ne0 hh, n_held ?_⟩
      have q1 : (lz (G v) - lz (X v)).toInt = G v - X v := l_sub (lz_toInt ⟨by omega, by omega⟩) (lz_toInt ⟨by omega, by omega⟩) ⟨by omega, by omega⟩
      have q3 := l_mul q1 (show (1000 : Int64).toInt = 1000 by decide) ⟨by omega, by omega⟩
      have q4 := l_div q3 (i2l h) (tdiv_inL ⟨by omega, by omega⟩)
      rw [q4]
      exact hK
