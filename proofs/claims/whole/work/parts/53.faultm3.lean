/-! the reference looks for the fault: brackets, min and max -/
theorem j191 {K : Int32 → RT → Prop} {k6 : Int32 → Int32 → Int32 → RT → Prop} {o e : Nat} {w t : Int32} {y : RT} (ho : o ≤ 6) (he : e < 900) (h : k6 (nI (o + 1)) w (nI (e + 1)) (rI y 21 (upd (y.1 21) o t))) : jp_X10_faultOf_191 K k6 (nI o) w (nI e) t (nI o) y := by
  unfold jp_X10_faultOf_191
  rw [nI_clamp (by omega)]
  refine ⟨vp_in_nI (by omega) (by decide), fun s32 h32 x33 h33 => ⟨fun z => absurd z (nI_pos (by omega)), fun _ x35 h35 => ?_⟩⟩
  rw [nI_1] at h33
  have e35 : x35 = nI (e + 1) := h35.trans (nI_1 e)
  subst h32; subst h33; subst e35
  exact j345 (by omega) h
theorem j191n {K : Int32 → RT → Prop} {k6 : Int32 → Int32 → Int32 → RT → Prop} {o e : Nat} {w t : Int32} {y : RT} (ho : o ≤ 6) (he : e < 900) (h : K (nI e) (rI y 21 (upd (y.1 21) o t))) : jp_X10_faultOf_191 K k6 (nI o) w (-1 - nI e) t (nI o) y := by
  have ez : (-1 - nI e : Int32).toInt = -1 - (e : Int) := i_sub rfl (nI_int (by omega)) ⟨by omega, by omega⟩
  have en : (-1 - nI e : Int32) < 0 := by rw [i_lt, ez]; simp only [Int32.toInt_zero]; omega
  unfold jp_X10_faultOf_191
  rw [nI_clamp (by omega)]
  refine ⟨vp_in_nI (by omega) (by decide), fun s32 h32 x33 h33 => ⟨fun _ x35 h35 => ?_, fun z => absurd en z⟩⟩
  have e35 : x35 = -1 - nI e := by rw [h35, Int32.add_zero]
  subst h32; subst e35
  exact j345n (by omega) h
theorem run_open {K : Int32 → RT → Prop} {L : Nat → Nat} {len : Nat} {y : RT} {o k : Nat} (hL : LOK L len) (hM : MT y L len) (ho : o ≤ 6) (hc : L k = 40) (h1 : o < 6 → Run K len (rI y 21 (upd (y.1 21) o 1)) (o + 1) 1 (k + 1)) (h0 : ¬ o < 6 → K (nI k) y) : Run K len y o 1 k := by
  have h80 := hL.1
  have hk := LOK_lt hL (k := k) (by omega)
  refine run_other hL hM hk (fun e => by have := isD_iff.mp e; omega) (fun e => by have := isNm_iff.mp e; omega) (by omega) (fun g hg hg1 => ⟨fun z => absurd z (by decide), fun _ => ⟨fun _ => ⟨fun _ => ⟨fun z => absurd z (nI_pos (by omega)), fun _ => n_letter hL hM (by omega) ?_⟩, fun z => absurd z (by rw [hc]; decide)⟩, fun z => absurd (by rw [hc]; rfl) z⟩⟩)
  refine ⟨fun z => absurd (by rw [hc]; rfl) z, fun _ => ⟨fun z => ⟨fun z2 => absurd z2 (nI_pos (by omega)), fun _ => ⟨fun z2 => absurd rfl z2, fun _ => h0 ?_⟩⟩, fun z => ⟨fun z2 => absurd z2 (nI_pos (by omega)), fun _ => ⟨fun _ => ⟨fun _ => ?_, fun z2 => absurd z2 (by rw [hc]; decide)⟩, fun z2 => absurd z2 (by decide)⟩⟩⟩⟩
  · have := (nI_leI (a := 6) (by decide) (by omega)).mp z
    omega
  · have ho6 : o < 6 := by
      rcases Nat.lt_or_ge o 6 with w | w
      · exact w
      · exact absurd (nI_le (a := 6) w (by omega)) z
    exact j191 ho (by omega) (h1 ho6 g hg hg1)
theorem n_wordEnd {s : RT} {L : Nat → Nat} {len k : Nat} {K : Int32 → Prop} (hL : LOK L len) (hM : MT s L len) (hk : k ≤ len) (h1 : (L (k + 1) = 105 ∨ L (k + 1) = 97) → L (k + 2) = (if L (k + 1) = 105 then 110 else 120) → K (nI (k + 3))) (h2 : ¬ (L (k + 1) = 105 ∨ L (k + 1) = 97) → K (-1 - nI (k + 1))) (h3 : (L (k + 1) = 105 ∨ L (k + 1) = 97) → ¬ L (k + 2) = (if L (k + 1) = 105 then 110 else 120) → K (-1 - nI (k + 2))) : wp_X10_wordEnd s (nI k) K := by
  have h80 := hL.1
  have a1 := LOK_126 hL (k + 1)
  have a2 := LOK_126 hL (k + 2)
  unfold wp_X10_wordEnd
  rw [nI_1]
  have h45 : (L (k + 1) = 105 ∨ L (k + 1) = 97) → jp_X10_wordEnd_25 s (nI k) K (nI (L (k + 1))) := by
    intro q
    unfold jp_X10_wordEnd_25
    rw [show (2 : Int32) = nI 2 from rfl, nI_add]
    refine n_letter hL hM (by omega) ?_
    have hw : ∀ t : Nat, t ≤ 126 → t = (if L (k + 1) = 105 then 110 else 120) → jp_X10_wordEnd_45 s (nI k) K (nI t) (nI (L (k + 2))) := by
      intro t ht he
      refine ⟨fun z => ?_, fun z => ?_⟩
      · rw [m3n (by omega)]
        exact h3 q (fun e => z (by rw [e, he]))
      · rw [show (3 : Int32) = nI 3 from rfl, nI_add]
        exact h1 q (by rw [← he]; exact (chr a2 ht).mp z)
    refine ⟨fun z => hw 120 (by omega) (by rw [if_neg (fun e => z (by rw [e]; rfl))]), fun z => hw 110 (by omega) (by rw [if_pos ((chr (b := 105) a1 (by omega)).mp z)])⟩
  refine n_letter hL hM (by omega) ⟨fun z => h45 (Or.inl ((chr (b := 105) a1 (by omega)).mp z)), fun z => ⟨fun z2 => h45 (Or.inr ((chr (b := 97) a1 (by omega)).mp z2)), fun z2 => ?_⟩⟩
  rw [m2n (by omega)]
  exact h2 (fun w => w.elim (fun e => z (by rw [e]; rfl)) (fun e => z2 (by rw [e]; rfl)))
theorem run_word {K : Int32 → RT → Prop} {L : Nat → Nat} {len : Nat} {y : RT} {o k : Nat} (hL : LOK L len) (hM : MT y L len) (ho : o ≤ 6) (hc : L k = 109)
    (h1 : (L (k + 1) = 105 ∨ L (k + 1) = 97) → L (k + 2) = (if L (k + 1) = 105 then 110 else 120) → o < 6 → L (k + 3) = 40 → Run K len (rI y 21 (upd (y.1 21) o 2)) (o + 1) 1 (k + 4))
    (h2 : (L (k + 1) = 105 ∨ L (k + 1) = 97) → L (k + 2) = (if L (k + 1) = 105 then 110 else 120) → ¬ (o < 6 ∧ L (k + 3) = 40) → K (nI (k + 3)) y)
    (h3 : ¬ (L (k + 1) = 105 ∨ L (k + 1) = 97) → ∀ f, K (nI (k + 1)) (rI y 21 (upd (y.1 21) o f))) (h4 : (L (k + 1) = 105 ∨ L (k + 1) = 97) → ¬ L (k + 2) = (if L (k + 1) = 105 then 110 else 120) → ∀ f, K (nI (k + 2)) (rI y 21 (upd (y.1 21) o f))) : Run K len y o 1 k := by
  have h80 := hL.1
  have hk := LOK_lt hL (k := k) (by omega)
  have hneg : ∀ (g e : Nat), e < 900 → (∀ f, K (nI e) (rI y 21 (upd (y.1 21) o f))) → jp_X10_faultOf_130 K (fun v0 v1 v2 v3 => lp_X10_faultOf_6 K g v0 v1 v2 v3) (nI o) 1 (nI (L k)) (-1 - nI e) y := by
    intro g e he h
    have ez : (-1 - nI e : Int32).toInt = -1 - (e : Int) := i_sub rfl (nI_int (by omega)) ⟨by omega, by omega⟩
    have en : (-1 - nI e : Int32) < 0 := by rw [i_lt, ez]; simp only [Int32.toInt_zero]; omega
    exact ⟨fun _ => ⟨fun _ => ⟨fun z => absurd (by rw [hc]; rfl) z, fun _ => j191n ho he (h 2)⟩, fun z => absurd en z⟩, fun z => absurd en z⟩
  refine run_other hL hM hk (fun e => by have := isD_iff.mp e; omega) (fun e => by have := isNm_iff.mp e; omega) (by omega) (fun g hg hg1 => ⟨fun z => absurd z (by decide), fun _ => ⟨fun z => absurd z (by rw [hc]; decide), fun _ => ⟨fun z => absurd (by rw [hc]; rfl) z, fun _ => ⟨fun z => absurd (by rw [hc]; rfl) z, fun _ => n_wordEnd hL hM (by omega) (fun w1 w2 => ?_) (fun w => hneg g (k + 1) (by omega) (h3 w)) (fun w1 w2 => hneg g (k + 2) (by omega) (h4 w1 w2))⟩⟩⟩⟩)
  refine ⟨fun z => absurd z (nI_pos (by omega)), fun _ => n_letter hL hM (by omega) ⟨fun z => ?_, fun z => ⟨fun z2 => ?_, fun z2 => ?_⟩⟩⟩
  · exact ⟨fun z2 => absurd z2 (nI_pos (by omega)), fun _ => ⟨fun z2 => absurd rfl z2, fun _ => h2 w1 w2 (fun e => z (by rw [e.2]; rfl))⟩⟩
  · refine ⟨fun z3 => absurd z3 (nI_pos (by omega)), fun _ => ⟨fun z3 => absurd rfl z3, fun _ => h2 w1 w2 (fun e => ?_)⟩⟩
    have := (nI_leI (a := 6) (by decide) (by omega)).mp z2
    omega
  · have ho6 : o < 6 := by
      rcases Nat.lt_or_ge o 6 with w | w
      · exact w
      · exact absurd (nI_le (a := 6) w (by omega)) z2
    have hc3 := (chr (b := 40) (LOK_126 hL (k + 3)) (by omega)).mp z
    have hk3 := LOK_lt hL (k := k + 3) (by omega)
    exact ⟨fun z3 => absurd z3 (nI_pos (by omega)), fun _ => ⟨fun _ => ⟨fun z3 => absurd (by rw [hc]; rfl) z3, fun _ => j191 ho (by omega) (h1 w1 w2 ho6 hc3 g (by omega) hg1)⟩, fun z3 => absurd z3 (by decide)⟩⟩
