/-! the histories of the reference -/
theorem ixM0 (v : Nat) : (9 : Int32) + ((13 : Int32) * nI v) = nI (9 + 13 * v) := by rw [show (9 : Int32) = nI 9 from rfl, show (13 : Int32) = nI 13 from rfl, pk_mul, nI_add]
theorem ixM1 (v k : Nat) : (((9 : Int32) + ((13 : Int32) * nI v)) + (1 : Int32)) + nI k = nI (10 + 13 * v + k) := by
  rw [ixM0, show (1 : Int32) = nI 1 from rfl, nI_add, nI_add]; congr 1; omega
theorem ixM7 (v k : Nat) : (((9 : Int32) + ((13 : Int32) * nI v)) + (7 : Int32)) + nI k = nI (16 + 13 * v + k) := by
  rw [ixM0, show (7 : Int32) = nI 7 from rfl, nI_add, nI_add]; congr 1; omega
theorem n_points {s : RT} {c : Nat → Nat} {T V : Nat → Nat → Int32} {v : Nat} {K : Int32 → Prop} (hM : HM (s.1 1) c T V) (hv : v < 3) (h : K (nI (c v))) : wp_X10_points s (nI v) K := by
  unfold wp_X10_points
  rw [ixM0, nI_clamp (by omega), (hM v hv).1]
  exact ⟨vp_in_nI (by omega) (by decide), h⟩
theorem n_ptime {s : RT} {c : Nat → Nat} {T V : Nat → Nat → Int32} {v k : Nat} {K : Int32 → Prop} (hM : HM (s.1 1) c T V) (hO : HOK c T V) (hv : v < 3) (hk : k < c v) (h : K (T v k)) : wp_X10_pointTime s (nI v) (nI k) K := by
  have h6 := (hO v hv).1
  unfold wp_X10_pointTime
  rw [ixM1, nI_clamp (by omega), ((hM v hv).2 k hk).1]
  exact ⟨vp_in_nI (by omega) (by decide), h⟩
theorem n_pvalue {s : RT} {c : Nat → Nat} {T V : Nat → Nat → Int32} {v k : Nat} {K : Int32 → Prop} (hM : HM (s.1 1) c T V) (hO : HOK c T V) (hv : v < 3) (hk : k < c v) (h : K (V v k)) : wp_X10_pointValue s (nI v) (nI k) K := by
  have h6 := (hO v hv).1
  unfold wp_X10_pointValue
  rw [ixM7, nI_clamp (by omega), ((hM v hv).2 k hk).2]
  exact ⟨vp_in_nI (by omega) (by decide), h⟩
theorem p1 {u : Nat} (h : u ≠ 0) : nI u - 1 = nI (u - 1) := by rw [show (1 : Int32) = nI 1 from rfl, pk_sub (by omega)]
theorem n_histM {s : RT} {c : Nat → Nat} {T V : Nat → Nat → Int32} {v : Nat} {t : Int32} {K : Int64 → Prop} (hM : HM (s.1 1) c T V) (hO : HOK c T V) (hv : v < 3) (h : K (lz (hvZ (c v) (T v) (V v) t))) : wp_X10_historyValue s (nI v) t K := by
  have h6 := (hO v hv).1
  refine n_points hM hv ?_
  unfold hvZ at h
  refine ⟨fun q => ?_, fun q => ?_⟩
  · have c0 : c v ≠ 0 := fun e => q (by rw [e]; rfl)
    rw [if_neg c0] at h
    rw [show (0 : Int32) = nI 0 from rfl]
    refine n_ptime hM hO hv (by omega) ?_
    obtain ⟨u1, u2, u3⟩ := upT_ok (T v) t (c v)
    refine ⟨fun q2 => ?_, fun q2 => n_pvalue hM hO hv (by omega) ?_⟩
    · have hj : jp_X10_historyValue_56 s (nI v) t K (nI (c v)) (nI (upT (T v) t (c v))) := by
        generalize upT (T v) t (c v) = u at h u1 u2 u3
        have u0 : u ≠ 0 := fun e => by
          have h3 := u3 (by omega)
          rw [e] at h3
          rw [i_lt] at h3 q2
          omega
        rw [if_neg u0] at h
        refine ⟨fun q3 => ?_, fun q3 => ?_⟩
        · have uc : u ≠ c v := fun e => q3 (by rw [e])
          rw [if_neg uc] at h
          rw [p1 u0]
          refine n_ptime hM hO hv (by omega) ?_
          intro x8 hx8
          subst hx8
          refine n_pvalue hM hO hv (by omega) ?_
          intro x10 hx10
          subst hx10
          refine n_pvalue hM hO hv (by omega) (n_ptime hM hO hv (by omega) ?_)
          have hlt : T v (u - 1) < T v u := by have := (hO v hv).2.2 (u - 1) (by omega); rwa [show u - 1 + 1 = u by omega] at this
          refine ⟨sub_ne hlt, ?_⟩
          rw [lz_of] at h; exact h
        · have uc : u = c v := (nI_eq (by omega) (by omega)).mp q3
          rw [if_pos uc] at h
          rw [p1 c0]
          refine n_pvalue hM hO hv (by omega) ?_
          rw [i2l_lz, ← uc]; exact h
      have key : ∀ n k, k + n = c v → upN (T v) t (c v) n k = upT (T v) t (c v) → lp_X10_historyValue_33 s (nI v) t K (n + 1) (nI (c v)) (nI k) := by
        intro n
        induction n with
        | zero =>
          intro k h1 h2
          refine ⟨fun _ => ?_, fun q => absurd (nI_le (show c v ≤ k by omega) (by omega)) q⟩
          rw [← h2] at hj; exact hj
        | succ n ih =>
          intro k h1 h2
          unfold upN at h2
          rw [if_neg (by omega)] at h2
          refine ⟨fun q => absurd ((nI_leI (by omega) (by omega)).mp q) (by omega), fun _ => ?_⟩
          refine n_ptime hM hO hv (by omega) ?_
          refine ⟨fun q => ?_, fun q x6 hx6 => ?_⟩
          · rw [if_pos q] at h2; rw [← h2] at hj; exact hj
          · rw [if_neg q] at h2
            have e6 : x6 = nI (k + 1) := hx6.trans (nI_1 k)
            subst e6
            exact ih (k + 1) (by omega) h2
      exact ⟨c v + 1, key (c v) 0 (by omega) rfl⟩
    · rw [i2l_lz]
      generalize upT (T v) t (c v) = u at h u1 u2 u3
      by_cases u0 : u = 0
      · rw [if_pos u0] at h; exact h
      · rw [if_neg u0] at h
        have et : t = T v 0 := by
          have h3 := u2 0 (by omega)
          rw [i_lt] at h3 q2
          rw [i_eq]; omega
        by_cases u1' : u = 1
        · subst u1'
          by_cases uc : 1 = c v
          · rw [if_pos uc] at h; exact h
          · rw [if_neg uc] at h
            rw [et] at h
            have e0 : (T v (1 - 1)).toInt64 = (T v 0).toInt64 := rfl
            have e1 : V v (1 - 1) = V v 0 := rfl
            have ez : (T v 0).toInt64 - (T v 0).toInt64 = 0 := Int64.sub_self _
            rw [e0, e1, ez, Int64.mul_zero, Int64.zero_div, Int64.add_zero, i2l] at h
            exact h
        · have h3 := u2 1 (by omega)
          have h4 := HOK_mono hO hv (show 0 < 1 by omega) (by omega)
          rw [i_lt] at h3
          rw [et] at h3
          omega
  · have c0 : c v = 0 := (nI_eq (by omega) (by decide)).mp q
    rw [if_pos c0] at h; exact h
theorem n_hslopeM {s : RT} {c : Nat → Nat} {T V : Nat → Nat → Int32} {v : Nat} {t : Int32} {K : Int64 → Prop} (hM : HM (s.1 1) c T V) (hO : HOK c T V) (hv : v < 3) (h : K (lz (hsZ (c v) (T v) (V v) t))) : wp_X10_historySlope s (nI v) t K := by
  have h6 := (hO v hv).1
  unfold hsZ at h
  obtain ⟨u1, u2, u3⟩ := upT_ok (T v) t (c v)
  generalize upT (T v) t (c v) = u at h u1 u2 u3
  have key : ∀ n k, 1 ≤ k → c v + 1 < k + n → k ≤ c v + 1 → (0 < u → u < c v → k ≤ u) → lp_X10_historySlope_2 s (nI v) t K n (nI k) := by
    intro n
    induction n with
    | zero =>
      intro k h1 h2 hk1 h3
      omega
    | succ n ih =>
      intro k h1 h2 hk1 h3
      refine n_points hM hv ⟨fun q => ?_, fun q => ?_⟩
      · have := (nI_leI (by omega) (by omega)).mp q
        by_cases u0 : u = 0
        · rw [if_pos u0] at h; exact h
        · rw [if_neg u0, if_pos (by
            rcases Nat.lt_or_ge u (c v) with w | w
            · have := h3 (by omega) w; omega
            · omega)] at h
          exact h
      · have hk : k < c v := by
          rcases Nat.lt_or_ge k (c v) with w | w
          · exact w
          · exact absurd (nI_le w (by omega)) q
        rw [p1 (by omega)]
        refine n_ptime hM hO hv (by omega) ⟨fun q2 x5 hx5 => ?_, fun q2 => n_ptime hM hO hv (by omega) ⟨fun q3 x8 hx8 => ?_, fun q3 => ?_⟩⟩
        · have e5 : x5 = nI (k + 1) := hx5.trans (nI_1 k)
          subst e5
          refine ih (k + 1) (by omega) (by omega) (by omega) (fun w1 w2 => ?_)
          have h5 := h3 w1 w2
          have h6 := u2 (k - 1) (by omega)
          exact absurd q2 h6
        · have e8 : x8 = nI (k + 1) := hx8.trans (nI_1 k)
          subst e8
          refine ih (k + 1) (by omega) (by omega) (by omega) (fun w1 w2 => ?_)
          have h5 := h3 w1 w2
          by_cases e : k = u
          · subst e
            have h7 := u3 w2
            rw [i_lt] at h7
            rw [i_le] at q3
            omega
          · omega
        · have ek : k = u := by
            have hle : ¬ u < k := fun w => by
              have h7 := u3 (by omega)
              by_cases e : u = k - 1
              · rw [e] at h7; exact q2 h7
              · have h8 := HOK_mono hO hv (show u < k - 1 by omega) (by omega)
                rw [i_lt] at h7 q2
                omega
            have hge : ¬ k < u := fun w => by
              have h7 := u2 k w
              rw [i_lt] at h7
              rw [i_le] at q3
              omega
            omega
          subst ek
          rw [if_neg (by omega), if_neg (by omega)] at h
          refine n_pvalue hM hO hv (by omega) (n_pvalue hM hO hv (by omega) (n_ptime hM hO hv (by omega) (n_ptime hM hO hv (by omega) ?_)))
          have hlt : T v (k - 1) < T v k := by have := (hO v hv).2.2 (k - 1) (by omega); rwa [show k - 1 + 1 = k by omega] at this
          have h1 := (hO v hv).2.1 k (by omega)
          have h2 := (hO v hv).2.1 (k - 1) (by omega)
          have es : (T v k - T v (k - 1)).toInt64 = (T v k).toInt64 - (T v (k - 1)).toInt64 := by
            apply l_ext
            rw [i2l, i_sub rfl rfl ⟨by omega, by omega⟩, l_sub (i2l _) (i2l _) ⟨by omega, by omega⟩]
          have ev : (V v k - V v (k - 1)).toInt64 = (V v k).toInt64 - (V v (k - 1)).toInt64 := by
            apply l_ext
            rw [i2l, i_sub rfl rfl ⟨by omega, by omega⟩, l_sub (i2l _) (i2l _) ⟨by omega, by omega⟩]
          rw [es, ev]
          refine ⟨sub_ne hlt, ?_⟩
          rw [lz_of] at h; exact h
  exact ⟨c v + 1, key (c v + 1) 1 (by omega) (by omega) (by omega) (fun w1 _ => w1)⟩
