/-! differs -/
def abI (x : Int) : Int := if x < 0 then -x else x
def mxI (d : Nat → Int) : Nat → Int
  | 0 => 0
  | v + 1 => if mxI d v < abI (d v) then abI (d v) else mxI d v
theorem mxI_in {d : Nat → Int} : ∀ v, (∀ u, u < v → -2000000000 ≤ d u ∧ d u ≤ 2000000000) → 0 ≤ mxI d v ∧ mxI d v ≤ 2000000000 := by
  intro v
  induction v with
  | zero => intro _; exact ⟨Int.le_refl _, by show (0 : Int) ≤ 2000000000; decide⟩
  | succ v ih =>
    intro h
    have h1 := ih (fun u hu => h u (by omega))
    have h2 := h v (by omega)
    unfold mxI abI
    split <;> split <;> omega
theorem n_endValue {s : RT} {n v : Nat} {g : Nat → Int32} {K : Int32 → Prop} (hX : PX s n g) (hn : n < 961) (hv : v < 3) (h : K (iz (stX g n v))) : wp_X4_endValue s (nI v) K := by
  unfold wp_X4_endValue
  rw [hX.1, ix8, ix81]
  refine n_pick (by decide) ?_
  rw [pk_n (by decide) (by omega), hX.2 _ (by omega)]
  unfold stX at h
  rw [iz_of] at h
  exact h
theorem n_diffX {t c y_r y_p : RT} {ct : Int32} {kp sl : Nat → Option Nat} {kr sr : Nat → RT} {a0 : Int32} {n n2 : Nat} {g g2 : Nat → Int32} {K : Int32 → RT → RT → Prop} (hX : PX c n g) (hX2 : PX y_r n2 g2) (hn : n < 961) (hn2 : n2 < 961) (hb : ∀ v, v < 3 → bd1 (stX g n v)) (hb2 : ∀ v, v < 3 → bd1 (stX g2 n2 v)) (h : K (iz (hdI (mxI (fun v => stX g2 n2 v - stX g n v) 3))) y_r y_p) : ∃ m : Nat, lp_X9_differs_90 t c ct kp kr sl sr a0 K m (0 : Int64) (0 : Int32) y_r y_p := by
  have hbd : ∀ u, u < 3 → -2000000000 ≤ stX g2 n2 u - stX g n u ∧ stX g2 n2 u - stX g n u ≤ 2000000000 := fun u hu => by
    have h1 := hb u hu
    have h2 := hb2 u hu
    unfold bd1 at h1 h2
    omega
  have key : ∀ (f v : Nat), f + v = 4 → v ≤ 3 → lp_X9_differs_90 t c ct kp kr sl sr a0 K f (lz (mxI (fun v => stX g2 n2 v - stX g n v) v)) (nI v) y_r y_p := by
    intro f
    induction f with
    | zero => intro v a b; omega
    | succ f ih =>
      intro v a b
      have hm := mxI_in (d := fun v => stX g2 n2 v - stX g n v) v (fun u hu => hbd u (by omega))
      refine ⟨fun q => n_hold ?_, fun q => ?_⟩
      · have hv : v = 3 := by have := (nI_leI (a := 3) (by decide) (by omega)).mp q; omega
        subst hv
        rw [lz_toInt ⟨by omega, by omega⟩]
        exact h
      · have hv : v < 3 := by
          rcases Nat.lt_or_ge v 3 with w | w
          · exact w
          · exact absurd (nI_le w (by omega)) q
        refine n_endValue hX hn hv (fun x19 h19 => n_endValue hX2 hn2 hv (fun x21 h21 x22 h22 => ?_))
        have e22 : x22 = nI (v + 1) := h22.trans (nI_1 v)
        subst e22
        have b1 := hb v hv
        have b2 := hb2 v hv
        unfold bd1 at b1 b2
        have t1 : (iz (stX g n v)).toInt64.toInt = stX g n v := by rw [i2l]; exact iz_toInt ⟨by omega, by omega⟩
        have t2 : (iz (stX g2 n2 v)).toInt64.toInt = stX g2 n2 v := by rw [i2l]; exact iz_toInt ⟨by omega, by omega⟩
        have td : ((iz (stX g2 n2 v)).toInt64 - x19).toInt = stX g2 n2 v - stX g n v := by
          rw [h19]; exact l_sub t2 t1 ⟨by omega, by omega⟩
        generalize (iz (stX g2 n2 v)).toInt64 - x19 = dd at td h21
        have ta : (if 0 < dd then dd else -dd).toInt = abI (stX g2 n2 v - stX g n v) := by
          unfold abI
          by_cases w : 0 < dd
          · rw [if_pos w, td]
            rw [l_lt, td] at w
            simp only [Int64.toInt_zero] at w
            rw [if_neg (by omega)]
          · rw [if_neg w, l_neg td ⟨by omega, by omega⟩]
            rw [l_lt, td] at w
            simp only [Int64.toInt_zero] at w
            split <;> omega
        generalize (if 0 < dd then dd else -dd) = aa at ta h21
        have e21 : x21 = lz (mxI (fun v => stX g2 n2 v - stX g n v) (v + 1)) := by
          rw [h21]
          have hm2 := mxI_in (d := fun v => stX g2 n2 v - stX g n v) (v + 1) (fun u hu => hbd u (by omega))
          apply l_ext
          rw [lz_toInt ⟨by omega, by omega⟩]
          have em : (lz (mxI (fun v => stX g2 n2 v - stX g n v) v)).toInt = mxI (fun v => stX g2 n2 v - stX g n v) v := lz_toInt ⟨by omega, by omega⟩
          show _ = if mxI (fun v => stX g2 n2 v - stX g n v) v < abI (stX g2 n2 v - stX g n v) then abI (stX g2 n2 v - stX g n v) else mxI (fun v => stX g2 n2 v - stX g n v) v
          by_cases w : aa < lz (mxI (fun v => stX g2 n2 v - stX g n v) v)
          · rw [if_pos w, em]
            rw [l_lt, em, ta] at w
            rw [if_neg (by omega)]
          · rw [if_neg w, ta]
            rw [l_lt, em, ta] at w
            split <;> omega
        subst e21
        exact ih (v + 1) (by omega) (by omega)
  exact ⟨4, key 4 0 rfl (by decide)⟩
def Same19 (m y : RT) : Prop := y.1 = m.1 ∧ (∀ k, k ≠ 19 → y.2.1 k = m.2.1 k) ∧ y.2.2 = m.2.2
