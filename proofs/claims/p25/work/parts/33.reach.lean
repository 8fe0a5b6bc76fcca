/-! the search for the time that a delay makes: by halving (the class), one by one (the reference) -/
theorem n_reach {s : RT} {con par : Nat → Int} {d b : Nat} {K : Int32 → Prop} (hL : LagsOK con par) (hc : ∀ d, d < 3 → (s.1 6 d).toInt = con d) (hp : ∀ d, d < 3 → (s.1 7 d).toInt = par d) (hd : d < 3) (hb : b ≤ 8000) (h : K (nI (madeN (con d) (par d) b))) : wp_X3_reach s (nI d) (nI b) K := by
  have hT := firstT_ok (c := con d) (s := par d) hb
  generalize hTT : firstT (con d) (par d) b = T at hT
  have hend : jp_X3_reach_68 s (nI d) (nI b) K (nI T) := by
    unfold madeN at h
    rw [hTT] at h
    have hT1 := hT.1
    have hT2 := hT.2.1
    refine ⟨fun h1 => ?_, fun h1 => ?_⟩
    · have : 8000 < T := (nI_ltI (by decide) (by omega)).mp h1
      rw [if_pos (Or.inl this)] at h; exact h
    · have h8 : ¬ 8000 < T := fun q => h1 ((nI_ltI (by decide) (by omega)).mpr q)
      refine n_lagX hL hc hp hd (by rw [nI_int (by omega)]; omega) (by rw [nI_int (by omega)]; omega) ?_
      rw [nI_int (by omega)]
      have hle := lag_le (t := (T : Int)) (hL d hd).1 (hL d hd).2.1 (hL d hd).2.2.1 (hL d hd).2.2.2 (by omega) (by omega)
      have hnn := lag_nn (c := con d) (s := par d) (t := (T : Int))
      have hz : iz (lagI (con d) (par d) T) = 0 ↔ lagI (con d) (par d) T = 0 := by
        rw [i_eq, iz_toInt ⟨by omega, by omega⟩]; simp
      rw [hz]
      refine ⟨fun q => ?_, fun q => ?_⟩
      · rw [if_neg (fun w => w.elim h8 q)] at h; exact h
      · rw [if_pos (Or.inr q)] at h; exact h
  intro x1 hx
  have e1 : x1 = nI (b + 1) := hx.trans (nI_1 b)
  subst e1
  have key : ∀ (n lo hi k : Nat), b < lo → lo ≤ T → T ≤ hi → hi ≤ 8001 → k + (hi - lo) ≤ 8000 → hi - lo < n → lp_X3_reach_12 s (nI d) (nI b) K n (nI lo) (nI hi) (nI k) := by
    intro n
    induction n with
    | zero => intro lo hi k h1 h2 h3 h4 h5 h6; omega
    | succ n ih =>
      intro lo hi k h1 h2 h3 h4 h5 h6
      refine ⟨fun q => ?_, fun q => ⟨fun q2 => ?_, fun q2 x7 hx7 => ?_⟩⟩
      · have : 8000 ≤ k := (nI_leI (by decide) (by omega)).mp q
        have e : lo = T := by omega
        rw [e]; exact hend
      · have : hi ≤ lo := (nI_leI (by omega) (by omega)).mp q2
        have e : lo = T := by omega
        rw [e]; exact hend
      · have hlt : lo < hi := by
          rcases Nat.lt_or_ge lo hi with w | w
          · exact w
          · exact absurd ((nI_leI (by omega) (by omega)).mpr w) q2
        have e7 : x7 = nI (lo + (hi - lo) / 2) := by
          rw [hx7, pk_sub (by omega), show (2 : Int32) = nI 2 from rfl, pk_div (by omega) (by decide) (by decide), nI_add]
        subst e7
        generalize hm : lo + (hi - lo) / 2 = m
        have hm1 : lo ≤ m := by omega
        have hm2 : m < hi := by omega
        refine n_lagX hL hc hp hd (by rw [nI_int (by omega)]; omega) (by rw [nI_int (by omega)]; omega) ?_
        rw [nI_int (by omega)]
        have hle := lag_le (t := (m : Int)) (hL d hd).1 (hL d hd).2.1 (hL d hd).2.2.1 (hL d hd).2.2.2 (by omega) (by omega)
        have hnn := lag_nn (c := con d) (s := par d) (t := (m : Int))
        have hsub : (nI m - iz (lagI (con d) (par d) m)).toInt = m - lagI (con d) (par d) m := i_sub (nI_int (by omega)) (iz_toInt ⟨by omega, by omega⟩) ⟨by omega, by omega⟩
        rw [i_lt, hsub, nI_int (by omega)]
        refine ⟨fun w x10 hx10 x11 hx11 => ?_, fun w x12 hx12 => ?_⟩
        · have e10 : x10 = nI (m + 1) := hx10.trans (nI_1 m)
          have e11 : x11 = nI (k + 1) := hx11.trans (nI_1 k)
          subst e10; subst e11
          have hmT : m < T := by
            rcases Nat.lt_or_ge m T with w2 | w2
            · exact w2
            · have := first_mono (hL d hd).2.2.1 (hL d hd).2.2.2 hT (by omega) w2
              omega
          exact ih (m + 1) hi (k + 1) (by omega) (by omega) h3 h4 (by omega) (by omega)
        · have e12 : x12 = nI (k + 1) := hx12.trans (nI_1 k)
          subst e12
          have hmT : T ≤ m := by
            rcases Nat.lt_or_ge m T with w2 | w2
            · have := hT.2.2.2 m (by omega) w2; omega
            · exact w2
          exact ih lo m (k + 1) h1 h2 hmT (by omega) (by omega) (by omega)
  exact ⟨8001, key 8001 (b + 1) 8001 0 (by omega) (by have := hT.1; omega) hT.2.1 (Nat.le_refl _) (by omega) (by omega)⟩
theorem made_range {c s : Int} {b : Nat} (hb : b ≤ 8000) (h : madeN c s b ≠ 0) : b < madeN c s b ∧ madeN c s b ≤ 8000 := by
  have hT := firstT_ok (c := c) (s := s) hb
  unfold madeN at h ⊢
  by_cases q : 8000 < firstT c s b ∨ lagI c s (firstT c s b) = 0
  · rw [if_pos q] at h; exact absurd rfl h
  · rw [if_neg q]
    exact ⟨hT.1, by omega⟩
