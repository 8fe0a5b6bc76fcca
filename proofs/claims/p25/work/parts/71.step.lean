/-! one step, apart from how either program takes it: n steps, the time tn, the rows g, the length h -/
def stX (g : Nat → Int32) (n v : Nat) : Int := (g (n * 8 + 1 + v)).toInt
def env0 (P : PB) (n tn : Nat) (g : Nat → Int32) : Nat → Int := envF P (tvZ P n g) (tsZ P n g) (nI tn)
def stK (P : PB) (n tn : Nat) (g : Nat → Int32) (v : Nat) : Int := valC (env0 P n tn g) (cd P v)
def stG0 (P : PB) (n tn : Nat) (g : Nat → Int32) (h v : Nat) : Int := hdI (stX g n v + (stK P n tn g v * h).tdiv 1000)
def env1 (P : PB) (n tn : Nat) (g : Nat → Int32) (h : Nat) (G : Nat → Int) : Nat → Int := envF P (gvZ (tvZ P n g) (nI tn) h (stX g n) G) (gsZ (tsZ P n g) (nI tn) h (stX g n) G) (nI tn + nI h)
def stNx (P : PB) (n tn : Nat) (g : Nat → Int32) (h : Nat) (G : Nat → Int) (v : Nat) : Int := hdI (stX g n v + ((stK P n tn g v + valC (env1 P n tn g h G) (cd P v)) * h).tdiv 2000)
def stI (P : PB) (n tn : Nat) (g : Nat → Int32) (h : Nat) : Nat → (Nat → Int)
  | 0 => stG0 P n tn g h
  | k + 1 => stNx P n tn g h (stI P n tn g h k)
def shortS (P : PB) (t : Int32) (h : Nat) : Prop := ∃ d, d < 3 ∧ usP P d ∧ (lgI P d t).toInt ≠ 0 ∧ (lgI P d t).toInt < h
noncomputable def rdS (P : PB) (t : Int32) (h : Nat) : Nat := @ite Nat (shortS P t h) (Classical.propDecidable _) (bR P) 0
noncomputable def stepG (P : PB) (n tn : Nat) (g : Nat → Int32) (h : Nat) : Nat → Int32 := fun j => if j < n * 8 + 4 then g j else if j < n * 8 + 7 then iz (stK P n tn g (j - (n * 8 + 4))) else if j = n * 8 + 7 then nI (rdS P (nI tn + nI h) h) else if j = n * 8 + 8 then nI (tn + h) else iz (stI P n tn g h (rdS P (nI tn + nI h) h + 1) (j - (n * 8 + 9)))
section
variable {P : PB} {n tn h : Nat} {g : Nat → Int32}
theorem stepG_old {j : Nat} (hj : j < n * 8 + 4) : stepG P n tn g h j = g j := if_pos hj
theorem stepG_k {v : Nat} (hv : v < 3) : stepG P n tn g h (n * 8 + 4 + v) = iz (stK P n tn g v) := by
  unfold stepG
  rw [if_neg (by omega), if_pos (by omega), show n * 8 + 4 + v - (n * 8 + 4) = v by omega]
theorem stepG_r : stepG P n tn g h (n * 8 + 7) = nI (rdS P (nI tn + nI h) h) := by
  unfold stepG
  rw [if_neg (by omega), if_neg (by omega), if_pos rfl]
theorem stepG_t : stepG P n tn g h ((n + 1) * 8) = nI (tn + h) := by
  unfold stepG
  rw [if_neg (by omega), if_neg (by omega), if_neg (by omega), if_pos (by omega)]
theorem stepG_y {v : Nat} (hv : v < 3) : stepG P n tn g h ((n + 1) * 8 + 1 + v) = iz (stI P n tn g h (rdS P (nI tn + nI h) h + 1) v) := by
  unfold stepG
  rw [if_neg (by omega), if_neg (by omega), if_neg (by omega), if_neg (by omega), show (n + 1) * 8 + 1 + v - (n * 8 + 9) = v by omega]
theorem stI_bd {k v : Nat} : bd1 (stI P n tn g h k v) := by
  cases k with
  | zero => exact hdI_in _
  | succ k => exact hdI_in _
theorem rdS_le (hP : POKp P) {t : Int32} : rdS P t h ≤ 4 := by
  have := hP.2.2.2.2.1
  unfold rdS
  split
  · exact this
  · omega
theorem env0_bd (hP : POKp P) (ht : tn ≤ 8000) : ∀ q, q < 22 → bd2 (env0 P n tn g q) := by
  have e : (nI tn).toInt = (tn : Int) := nI_int (by omega)
  refine envF_bd hP (by omega) (by omega) (fun v u hv _ => ?_) (fun v u hv _ => ts_bd hP hv)
  have := tv_bd (n := n) (g := g) (u := u) hP hv
  exact ⟨by omega, by omega⟩
theorem env1_bd {G : Nat → Int} (hP : POKp P) (ht : tn + h ≤ 8000) : ∀ q, q < 22 → bd2 (env1 P n tn g h G q) := by
  have e : (nI tn + nI h).toInt = ((tn + h : Nat) : Int) := by rw [nI_add]; exact nI_int (by omega)
  refine envF_bd hP (by omega) (by omega) (fun v u hv _ => gv_bd ?_) (fun v u hv _ => gs_bd (ts_bd hP hv))
  have := tv_bd (n := n) (g := g) (u := u) hP hv
  exact ⟨by omega, by omega⟩
theorem stK_bd {v : Nat} (hP : POKp P) (hv : v < 3) (ht : tn ≤ 8000) : bd2 (stK P n tn g v) := (tx_okc (env0_bd hP ht) (hP.1 v hv)).2.2
def Row0 (P : PB) (g : Nat → Int32) : Prop := ∀ v, v < 3 → g (1 + v) = iz (hvZ (bh P v) (bT P v) (bV P v) 0)
theorem tv_end {v : Nat} (hP : POKp P) (hG : POK n g) (h0 : Row0 P g) (ht : g (n * 8) = nI tn) (h8 : tn ≤ 8000) (hv : v < 3) : tvZ P n g v (nI tn) = stX g n v := by
  have e : (nI tn).toInt = (tn : Int) := nI_int (by omega)
  unfold tvZ toldZ stX
  by_cases hn : n = 0
  · subst hn
    have e0 : nI tn = 0 := by rw [← ht]; exact hG.1
    have et : tn = 0 := by have := (nI_eq (show tn < 2 ^ 31 by omega) (show 0 < 2 ^ 31 by decide)).mp e0; exact this
    subst et
    rw [if_neg (by omega), show 0 * 8 + 1 + v = 1 + v by omega, h0 v hv, hvZ_0 hP.2.2.1 hv]
    rfl
  · have hm := POK_mono hG (show 0 < n by omega) (Nat.le_refl n)
    rw [show 0 * 8 = 0 from rfl, hG.1, ht, e] at hm
    simp only [Int32.toInt_zero] at hm
    rw [if_pos (by omega)]
    obtain ⟨a1, a2, a3⟩ := stT_in hG (t := (nI tn).toInt) (by omega) (by rw [ht]; exact Int.le_refl _)
    have eu : stT n g (nI tn).toInt + 1 = n := by
      rcases Nat.lt_or_ge (stT n g (nI tn).toInt + 1) n with w | w
      · have := POK_mono hG w (Nat.le_refl n)
        rw [ht] at this
        omega
      · omega
    generalize stT n g (nI tn).toInt = u at *
    subst eu
    rw [← ht]
    exact valZ_end hG a1 hv
theorem POK_step (hP : POKp P) (hG : POK n g) (ht : g (n * 8) = nI tn) (hn : n < 960) (h1 : 1 ≤ h) (h5 : h ≤ 500) (h8 : tn + h ≤ 8000) : POK (n + 1) (stepG P n tn g h) := by
  have et : (nI tn).toInt = (tn : Int) := nI_int (by omega)
  have eth : (nI (tn + h)).toInt = ((tn + h : Nat) : Int) := nI_int (by omega)
  refine ⟨?_, by omega, fun s hs => ?_, fun s hs => ?_⟩
  · rw [stepG_old (by omega)]; exact hG.1
  · by_cases e : s = n + 1
    · subst e
      rw [stepG_t, eth]
      refine ⟨by omega, fun v hv => ?_⟩
      rw [stepG_y hv]
      have := stI_bd (P := P) (n := n) (tn := tn) (h := h) (g := g) (k := rdS P (nI tn + nI h) h + 1) (v := v)
      unfold bd1 at this
      rw [iz_toInt ⟨by omega, by omega⟩]
      exact this
    · rw [stepG_old (by omega)]
      refine ⟨(hG.2.2.1 s (by omega)).1, fun v hv => ?_⟩
      rw [stepG_old (by omega)]
      exact (hG.2.2.1 s (by omega)).2 v hv
  · by_cases e : s = n
    · subst e
      rw [stepG_t, stepG_old (by omega), ht, et, eth]
      refine ⟨by omega, by omega, fun v hv => ?_⟩
      rw [stepG_k hv]
      have := stK_bd (n := s) (g := g) hP hv (show tn ≤ 8000 by omega)
      unfold bd2 at this
      rw [iz_toInt ⟨by omega, by omega⟩]
      exact this
    · obtain ⟨b1, b2, b3⟩ := hG.2.2.2 s (by omega)
      rw [stepG_old (by omega), stepG_old (by omega)]
      refine ⟨b1, b2, fun v hv => ?_⟩
      rw [stepG_old (by omega)]
      exact b3 v hv
theorem Row0_step (h0 : Row0 P g) : Row0 P (stepG P n tn g h) := fun v hv => by rw [stepG_old (by omega)]; exact h0 v hv
theorem sub_self_lag {v d : Nat} (hP : POKp P) (hd : d < 3) (ht : tn ≤ 8000) {X G : Nat → Int} {va : Nat → Int32 → Int} {hh : Int} : gvZ va (nI tn) hh X G v (nI tn - lgI P d (nI tn)) = va v (nI tn - lgI P d (nI tn)) := by
  have et : (nI tn).toInt = (tn : Int) := nI_int (by omega)
  have := past_in hP hd (t := nI tn) (by omega) (by omega)
  exact if_pos this.2.1
theorem sub_self_slp {v d : Nat} (hP : POKp P) (hd : d < 3) (ht : tn ≤ 8000) {X G : Nat → Int} {sl : Nat → Int32 → Int} {hh : Int} : gsZ sl (nI tn) hh X G v (nI tn - lgI P d (nI tn)) = sl v (nI tn - lgI P d (nI tn)) := by
  have et : (nI tn).toInt = (tn : Int) := nI_int (by omega)
  have := past_in hP hd (t := nI tn) (by omega) (by omega)
  exact if_pos this.2.1
theorem guess_self {v : Nat} {X G : Nat → Int} {va : Nat → Int32 → Int} (ht : tn + h ≤ 8000) (h1 : 1 ≤ h) (hG : bd1 (G v)) : gvZ va (nI tn) (h : Int) X G v (nI tn + nI h) = G v := by
  have et : (nI tn).toInt = (tn : Int) := nI_int (by omega)
  have e : (nI tn + nI h).toInt = ((tn + h : Nat) : Int) := by rw [nI_add]; exact nI_int (by omega)
  unfold gvZ
  rw [e, et, if_neg (by omega), show ((tn + h : Nat) : Int) - (tn : Int) = (h : Int) by omega, Int.mul_tdiv_cancel _ (by omega), show X v + (G v - X v) = G v by omega]
  exact hdI_id hG
end
