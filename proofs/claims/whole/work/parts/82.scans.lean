/-! crossings and greatest values -/
theorem stT_uniq {n : Nat} {g : Nat → Int32} {t : Int} {u : Nat} (hP : POK n g) (h0 : 0 < t) (h1 : t ≤ (g (n * 8)).toInt) (hu : u < n) (a : (g (u * 8)).toInt < t) (b : t ≤ (g ((u + 1) * 8)).toInt) : stT n g t = u := by
  obtain ⟨a1, a2, a3⟩ := stT_in hP h0 h1
  rcases Nat.lt_trichotomy (stT n g t) u with w | w | w
  · have : (g ((stT n g t + 1) * 8)).toInt ≤ (g (u * 8)).toInt := by
      by_cases e : stT n g t + 1 = u
      · rw [e]; exact Int.le_refl _
      · have := POK_mono hP (show stT n g t + 1 < u by omega) (by omega); omega
    omega
  · exact w
  · have : (g ((u + 1) * 8)).toInt ≤ (g (stT n g t * 8)).toInt := by
      by_cases e : u + 1 = stT n g t
      · rw [e]; exact Int.le_refl _
      · have := POK_mono hP (show u + 1 < stT n g t by omega) (by omega); omega
    omega
theorem stT_0 {n : Nat} {g : Nat → Int32} (hP : POK n g) {t : Int} (ht : t ≤ 0) : stT n g t = 0 := by
  obtain ⟨a, b, c⟩ := stT_ok n g t
  rcases Nat.eq_zero_or_pos (stT n g t) with w | w
  · exact w
  · have h1 := b 0 w
    have h2 := POK_nn hP (show 0 + 1 ≤ n by omega)
    omega
/-- the step of the next tick -/
theorem stT_next {n : Nat} {g : Nat → Int32} {t : Nat} (hP : POK n g) (h1 : ((t + 1 : Nat) : Int) ≤ (g (n * 8)).toInt) : (((t + 1 : Nat) : Int) ≤ (g ((stT n g (t : Int) + 1) * 8)).toInt → stT n g ((t + 1 : Nat) : Int) = stT n g (t : Int)) ∧ (¬ ((t + 1 : Nat) : Int) ≤ (g ((stT n g (t : Int) + 1) * 8)).toInt → stT n g ((t + 1 : Nat) : Int) = stT n g (t : Int) + 1) ∧ stT n g (t : Int) < n := by
  have hn0 : 0 < n := by
    rcases Nat.eq_zero_or_pos n with w | w
    · subst w
      rw [show 0 * 8 = 0 from rfl, hP.1] at h1
      simp only [Int32.toInt_zero] at h1
      omega
    · exact w
  have hu : stT n g (t : Int) < n ∧ (g (stT n g (t : Int) * 8)).toInt ≤ t ∧ (t : Int) ≤ (g ((stT n g (t : Int) + 1) * 8)).toInt := by
    by_cases e : t = 0
    · subst e
      rw [stT_0 hP (by omega)]
      have := POK_nn hP (show 0 + 1 ≤ n by omega)
      refine ⟨hn0, ?_, by omega⟩
      rw [show 0 * 8 = 0 from rfl, hP.1]
      simp only [Int32.toInt_zero]
      omega
    · obtain ⟨a, b, c⟩ := stT_in hP (t := (t : Int)) (by omega) (by omega)
      exact ⟨a, by omega, c⟩
  obtain ⟨u1, u2, u3⟩ := hu
  refine ⟨fun q => stT_uniq hP (by omega) h1 u1 (by omega) q, fun q => ?_, u1⟩
  have hlt : stT n g (t : Int) + 1 < n := by
    rcases Nat.lt_or_ge (stT n g (t : Int) + 1) n with w | w
    · exact w
    · exfalso
      rw [show stT n g (t : Int) + 1 = n by omega] at q
      exact q h1
  have h2 := (hP.2.2.2 (stT n g (t : Int) + 1) hlt).1
  exact stT_uniq hP (by omega) h1 hlt (by omega) (by omega)
theorem n_valS {s : RT} {P : PB} {n : Nat} {g : Nat → Int32} {v t : Nat} {K : Int32 → Prop} (hP : POKp P) (hX : PX s n g) (hG : POK n g) (h0 : Row0 P g) (hv : v < 3) (h8 : t ≤ 8000) (ht : (t : Int) ≤ (g (n * 8)).toInt) (h : K (iz (tvZ P n g v (nI t)))) : wp_X4_valueIn s (nI (stT n g (t : Int))) (nI v) (nI t) K := by
  have et : (nI t).toInt = (t : Int) := nI_int (by omega)
  unfold tvZ toldZ at h
  rw [et] at h
  by_cases e : t = 0
  · subst e
    rw [stT_0 hG (by omega)]
    rw [if_neg (by omega)] at h
    by_cases hn : n = 0
    · refine n_valueInX0 hX hG hn hv ?_
      rw [h0 v hv]
      exact h
    · refine n_valueInX hX hG (show 0 < n by omega) hv ?_
      have eb := valZ_begin hG (show 0 < n by omega) hv
      rw [show 0 * 8 = 0 from rfl, hG.1] at eb
      rw [show nI 0 = (0 : Int32) from rfl, eb, show 0 + 1 + v = 1 + v by omega, h0 v hv, hvZ_0 hP.2.2.1 hv]
      exact h
  · rw [if_pos (by omega)] at h
    exact n_valueInX hX hG (stT_in hG (by omega) ht).1 hv h
def crN (tv : Nat → Int) (lv : Int) (te : Nat) : Nat → Nat → Int32
  | 0, _ => -2000000004
  | f + 1, t => if te < t then -2000000004 else if lv ≤ tv t ∧ tv (t - 1) < lv then nI t else crN tv lv te f (t + 1)
theorem iz_cmp {a : Int32} {z : Int} (hz : bd2 z) : a ≤ iz z ↔ a.toInt ≤ z := by rw [i_le, iz_r2 hz]
theorem bd1_bd2 {z : Int} (h : -1000000000 ≤ z ∧ z ≤ 1000000000) : bd2 z := ⟨by omega, by omega⟩
theorem PT_crossing_ok : PT_crossing Inv := by
  intro j tt c r p ct kp kr sl sr m a0 a1 a2 hj h
  have h' := Inv_s h
  obtain ⟨_, ⟨G, hG⟩, _⟩ := h
  obtain ⟨g1, g2, g3, g4, g5⟩ := cur_end hG
  have hn := pth_n hG.1
  have gok := pth_ok hG.1
  have hP := hG.1.1
  have e1' : (1 : Int32).toInt = 1 := by decide
  have e8' : (8000 : Int32).toInt = 8000 := by decide
  have gt : ((pth G).2.2 ((pth G).1 * 8)).toInt = ((pth G).2.1 : Int) := by rw [g1]; exact nI_int (by omega)
  refine n_isVariable ⟨fun z => n_isThree ⟨fun _ => ⟨rfl, h'⟩, fun w => absurd z w⟩, fun z => n_isWithin ⟨fun y => n_isThree ⟨fun w => absurd w z, fun _ => n_within ⟨fun _ => ⟨rfl, h'⟩, fun w => absurd y w⟩⟩, fun y => n_isWithin ⟨fun x => ?_, fun x => n_isThree ⟨fun w => absurd w z, fun _ => n_within ⟨fun w => absurd w y, fun _ => n_within ⟨fun w => absurd x w, fun _ => ⟨rfl, h'⟩⟩⟩⟩⟩⟩⟩
  obtain ⟨v, hv, rfl⟩ := wi02 (b2_1.mp z)
  have hb := wi_eq.mp (b2_1.mp x)
  obtain ⟨f, hf, rfl⟩ := nI_of_int (x := a2) (by omega)
  rw [nI_int hf] at hb
  have tb := fun u => tv_bd (n := (pth G).1) (g := (pth G).2.2) (u := u) hP hv
  -- the reference
  have ref : ∀ ans : Int32, ans = crN (fun t => tvZ (qP G) (pth G).1 (pth G).2.2 v (nI t)) a1.toInt (pth G).2.1 8001 f → wp_X10_crossing m (nI v) a1 (nI f) (fun v2 => ans = v2 ∧ Inv (j + 1) tt c r p ct kp kr sl sr m) := by
    intro ans hans
    refine n_isThree ⟨fun w => absurd w z, fun _ => n_within ⟨fun w => absurd w y, fun _ => n_within ⟨fun _ => ⟨8001, ?_⟩, fun w => absurd w x⟩⟩⟩
    have key : ∀ (F t : Nat), 1 ≤ t → t ≤ 8001 → 8001 ≤ F + t → ans = crN (fun t => tvZ (qP G) (pth G).1 (pth G).2.2 v (nI t)) a1.toInt (pth G).2.1 (F + 1) t → lp_X10_crossing_37 m (nI v) a1 (nI f) (fun v2 => ans = v2 ∧ Inv (j + 1) tt c r p ct kp kr sl sr m) (F + 1) (nI t) := by
      intro F
      induction F with
      | zero =>
        intro t h1 h2 h3 h4
        have e : t = 8001 := by omega
        subst e
        refine ⟨fun _ => ⟨?_, h'⟩, fun q => absurd ?_ q⟩
        · rw [h4]; exact if_pos (by omega)
        · rw [g3]; exact nI_lt (by omega) (by decide)
      | succ F ih =>
        intro t h1 h2 h3 h4
        unfold crN at h4
        refine ⟨fun q => ⟨?_, h'⟩, fun q => ?_⟩
        · rw [g3] at q
          rw [if_pos ((nI_ltI (by omega) (by omega)).mp q)] at h4
          exact h4
        · rw [g3] at q
          have hte : ¬ (pth G).2.1 < t := fun w => q (nI_lt w (by omega))
          rw [if_neg hte] at h4
          have et : (nI t).toInt = (t : Int) := nI_int (by omega)
          have nt : nI t + 1 = nI (t + 1) := nI_1 t
          have et1 : nI t - 1 = nI (t - 1) := p1 (by omega)
          have et2 : (nI (t - 1)).toInt = ((t - 1 : Nat) : Int) := nI_int (by omega)
          refine n_toldValue hG.2.2.1.1.2.2.2.1 hP.2.2.1 hG.2.2.2.2 gok.1 hv (by omega) ?_
          have b1 := tb (nI t)
          have b2 := tb (nI (t - 1))
          unfold tvZ at b1 b2
          rw [lgc_lt, i2l, lz_toInt ⟨by omega, by omega⟩]
          refine ⟨fun w x10 h10 => ?_, fun w => ?_⟩
          · rw [nt] at h10
            subst h10
            refine ih (t + 1) (by omega) (by omega) (by omega) ?_
            rw [if_neg (fun w2 => by have := w2.1; unfold tvZ at this; omega)] at h4
            exact h4
          · rw [et1]
            refine n_toldValue hG.2.2.1.1.2.2.2.1 hP.2.2.1 hG.2.2.2.2 gok.1 hv (by omega) ?_
            rw [lgc_ge, i2l, lz_toInt ⟨by omega, by omega⟩]
            refine ⟨fun w2 x13 h13 => ?_, fun w2 => ⟨?_, h'⟩⟩
            · rw [nt] at h13
              subst h13
              refine ih (t + 1) (by omega) (by omega) (by omega) ?_
              rw [if_neg (fun w3 => by have := w3.2; unfold tvZ at this; omega)] at h4
              exact h4
            · rw [if_pos ⟨by unfold tvZ; omega, by unfold tvZ; omega⟩] at h4
              exact h4
    exact key 8000 f (by omega) (by omega) (by omega) hans
  refine n_endTime hG.2.1.2.2 (by omega) g1 ⟨fun q => ?_, fun q => ref _ ?_⟩
  · have hfe := (nI_leI (by omega) (by omega)).mp q
    rw [p1 (show f ≠ 0 by omega)]
    refine n_stepTo hG.2.1.2.2 gok.1 ?_
    rw [nI_int (show f - 1 < 2147483648 by omega)]
    refine n_valS hP hG.2.1.2.2 gok.1 gok.2.1 hv (by omega) (by omega) ?_
    rw [iz_cmp (bd1_bd2 (tb _))]
    have key : ∀ (F t : Nat) (b : Bool), 1 ≤ t → t ≤ (pth G).2.1 + 1 → 8001 ≤ F + t → (b = true ↔ tvZ (qP G) (pth G).1 (pth G).2.2 v (nI (t - 1)) < a1.toInt) → crN (fun t => tvZ (qP G) (pth G).1 (pth G).2.2 v (nI t)) a1.toInt (pth G).2.1 (F + 1) t = crN (fun t => tvZ (qP G) (pth G).1 (pth G).2.2 v (nI t)) a1.toInt (pth G).2.1 8001 f → lp_X9_crossing_92 tt c r p ct kp kr sl sr (nI v) a1 (nI f) (fun v1 => wp_X10_crossing m (nI v) a1 (nI f) (fun v2 => v1 = v2 ∧ Inv (j + 1) tt c r p ct kp kr sl sr m)) (F + 1) (nI (pth G).2.1) (nI (stT (pth G).1 (pth G).2.2 ((t - 1 : Nat) : Int))) (b2 b) (nI t) := by
      intro F
      induction F with
      | zero =>
        intro t b h1 h2 h3 h4 h5
        refine ⟨fun _ => ref _ ?_, fun q => absurd (nI_lt (by omega) (by omega)) q⟩
        rw [← h5]
        exact (if_pos (show (pth G).2.1 < t by omega)).symm
      | succ F ih =>
        intro t b h1 h2 h3 h4 h5
        unfold crN at h5
        refine ⟨fun q => ref _ ?_, fun q => ?_⟩
        · rw [if_pos ((nI_ltI (by omega) (by omega)).mp q)] at h5
          exact h5
        · have hte : ¬ (pth G).2.1 < t := fun w => q (nI_lt w (by omega))
          rw [if_neg hte] at h5
          obtain ⟨s1, s2, s3⟩ := stT_next (t := t - 1) gok.1 (by omega)
          rw [show t - 1 + 1 = t by omega] at s1 s2
          have nt : nI t + 1 = nI (t + 1) := nI_1 t
          have et : (nI t).toInt = (t : Int) := nI_int (by omega)
          have j114 : jp_X9_crossing_114 tt c r p ct kp kr sl sr (nI v) a1 (nI f) (fun v1 => wp_X10_crossing m (nI v) a1 (nI f) (fun v2 => v1 = v2 ∧ Inv (j + 1) tt c r p ct kp kr sl sr m)) (fun v0 v1 v2 v3 => lp_X9_crossing_92 tt c r p ct kp kr sl sr (nI v) a1 (nI f) (fun v1 => wp_X10_crossing m (nI v) a1 (nI f) (fun v2 => v1 = v2 ∧ Inv (j + 1) tt c r p ct kp kr sl sr m)) (F + 1) v0 v1 v2 v3) (nI (pth G).2.1) (nI (stT (pth G).1 (pth G).2.2 (t : Int))) (b2 b) (nI t) := by
            refine n_valS hP hG.2.1.2.2 gok.1 gok.2.1 hv (by omega) (by omega) ?_
            rw [iz_cmp (bd1_bd2 (tb _))]
            have go : ∀ b' : Bool, (b' = true ↔ tvZ (qP G) (pth G).1 (pth G).2.2 v (nI t) < a1.toInt) → ¬ (a1.toInt ≤ tvZ (qP G) (pth G).1 (pth G).2.2 v (nI t) ∧ tvZ (qP G) (pth G).1 (pth G).2.2 v (nI (t - 1)) < a1.toInt) → jp_X9_crossing_148 tt c r p ct kp kr sl sr (nI v) a1 (nI f) (fun v1 => wp_X10_crossing m (nI v) a1 (nI f) (fun v2 => v1 = v2 ∧ Inv (j + 1) tt c r p ct kp kr sl sr m)) (fun v0 v1 v2 v3 => lp_X9_crossing_92 tt c r p ct kp kr sl sr (nI v) a1 (nI f) (fun v1 => wp_X10_crossing m (nI v) a1 (nI f) (fun v2 => v1 = v2 ∧ Inv (j + 1) tt c r p ct kp kr sl sr m)) (F + 1) v0 v1 v2 v3) (nI (pth G).2.1) (nI (stT (pth G).1 (pth G).2.2 (t : Int))) (nI t) (b2 b') := by
              intro b' hb' hno x18 h18
              rw [nt] at h18
              subst h18
              rw [if_neg hno] at h5
              exact ih (t + 1) b' (by omega) (by omega) (by omega) hb' h5
            refine ⟨fun w => ⟨fun w2 => go false ⟨fun w3 => absurd w3 (by decide), fun w3 => by omega⟩ (fun w3 => ?_), fun w2 => ⟨fun w3 => absurd rfl w3, fun _ => ref _ ?_⟩⟩, fun w => ⟨fun w2 => go true ⟨fun _ => by omega, fun _ => rfl⟩ (fun w3 => by omega), fun w2 => ⟨fun _ => go true ⟨fun _ => by omega, fun _ => rfl⟩ (fun w3 => by omega), fun w3 => absurd w3 (by decide)⟩⟩⟩
            · have := h4.mpr w3.2
              rw [b2_0] at w2
              rw [w2] at this
              exact absurd this (by decide)
            · have hb1 := h4.mp (b2_1.mp w2)
              rw [if_pos ⟨w, hb1⟩] at h5
              exact h5
          unfold wp_X4_endOf
          rw [ix8n]
          refine n_pick (by decide) ?_
          rw [pk_n (by decide) (by omega), hG.2.1.2.2.2 _ (by omega)]
          refine ⟨fun w => ?_, fun w x20 h20 => ?_⟩
          · rw [i_le, et] at w
            rw [← s1 w]
            exact j114
          · rw [i_le, et] at w
            rw [nI_1, ← s2 w] at h20
            subst h20
            exact j114
    refine ⟨fun w => ⟨8001, ?_⟩, fun w => ⟨8001, ?_⟩⟩
    · exact key 8000 f false (by omega) (by omega) (by omega) ⟨fun w2 => absurd w2 (by decide), fun w2 => by omega⟩ rfl
    · exact key 8000 f true (by omega) (by omega) (by omega) ⟨fun _ => by omega, fun _ => rfl⟩ rfl
  · have hfe : (pth G).2.1 < f := by
      rcases Nat.lt_or_ge (pth G).2.1 f with w | w
      · exact w
      · exact absurd (nI_le w (by omega)) q
    exact (if_pos hfe).symm
