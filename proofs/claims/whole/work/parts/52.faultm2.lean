/-! the reference looks for the fault: numbers, names, signs ahead -/
def PostM (K : Int32 → RT → Prop) (len : Nat) (y : RT) (o : Nat) (r : RP) : Prop := ∀ y', SameG y y' → (∀ i, i < o → y'.1 21 i = y.1 21 i) → (r.1 = true → Run K len y' o 0 r.2.1) ∧ (r.1 = false → K (nI r.2.1) y')
theorem dgN_s {L : Nat → Nat} {m k : Nat} : dgN L (m + 1) k = if isD (L k) then dgN L m (k + 1) + 1 else 0 := rfl
theorem nam_pos {L : Nat → Nat} {k : Nat} : (namP L k).2.1 ≤ k + 4 := by
  unfold namP
  repeat' split
  all_goals (dsimp only; omega)
theorem num_pos {L : Nat → Nat} {k : Nat} : (numP L k).2.1 ≤ k + 8 := by
  have e1 := dgN_le (L := L) 4 k
  have e2 := dgN_le (L := L) 3 (k + dgN L 4 k + 1)
  unfold numP
  repeat' split
  all_goals (dsimp only; omega)
theorem m2n {b : Nat} (hb : b < 900) : (-2 : Int32) - nI b = -1 - nI (b + 1) := by
  apply i_ext
  rw [i_sub (a := -2) rfl (nI_int (by omega)) ⟨by omega, by omega⟩, i_sub (a := -1) rfl (nI_int (by omega)) ⟨by omega, by omega⟩]
  omega
theorem m3n {b : Nat} (hb : b < 900) : (-3 : Int32) - nI b = -1 - nI (b + 2) := by
  apply i_ext
  rw [i_sub (a := -3) rfl (nI_int (by omega)) ⟨by omega, by omega⟩, i_sub (a := -1) rfl (nI_int (by omega)) ⟨by omega, by omega⟩]
  omega
theorem n_digitsM {s : RT} {L : Nat → Nat} {len k m : Nat} {K : Int32 → Prop} (hL : LOK L len) (hM : MT s L len) (hk : k < 500) (hm : m < 100) (h : K (nI (dgN L m k))) : wp_X10_digits s (nI k) (nI m) K := by
  have key : ∀ r i, i + r = m → i + dgN L r (k + i) = dgN L m k → lp_X10_digits_2 s (nI k) (nI m) K (r + 1) (nI i) := by
    intro r
    induction r with
    | zero =>
      intro i h1 h2
      refine ⟨fun _ => ?_, fun z => absurd (nI_le (show m ≤ i by omega) (by omega)) z⟩
      have : i = dgN L m k := h2
      rw [this]; exact h
    | succ r ih =>
      intro i h1 h2
      rw [dgN_s] at h2
      refine ⟨fun z => absurd ((nI_leI (by omega) (by omega)).mp z) (by omega), fun _ => ?_⟩
      rw [nI_add]
      refine n_letter hL hM (by omega) (n_isDigitM (LOK_126 hL _) ⟨fun z => ?_, fun z x5 hx5 => ?_⟩)
      · have q : ¬ isD (L (k + i)) = true := fun e => by rw [e] at z; exact absurd z (by decide)
        rw [if_neg q] at h2
        rw [show i = dgN L m k from h2]; exact h
      · have q : isD (L (k + i)) = true := by
          cases e : isD (L (k + i))
          · rw [e] at z; exact absurd rfl z
          · rfl
        rw [if_pos q] at h2
        have e5 : x5 = nI (i + 1) := hx5.trans (nI_1 i)
        subst e5
        refine ih (i + 1) (by omega) ?_
        rw [show k + (i + 1) = k + i + 1 by omega]
        omega
  refine ⟨m + 1, key m 0 (by omega) ?_⟩
  rw [Nat.add_zero, Nat.zero_add]
theorem n_numEnd {s : RT} {L : Nat → Nat} {len k : Nat} {K : Int32 → Prop} (hL : LOK L len) (hM : MT s L len) (hk : k ≤ len) (h1 : (numP L k).1 = true → K (nI (numP L k).2.1)) (h0 : (numP L k).1 = false → K (-1 - nI (numP L k).2.1)) : wp_X10_numberEnd s (nI k) K := by
  have h80 := hL.1
  have e1 := dgN_len hL 4 k hk
  unfold numP at h1 h0
  refine n_digitsM (m := 4) hL hM (by omega) (by omega) ?_
  generalize dgN L 4 k = g at h1 h0 e1 ⊢
  intro x2 hx2
  rw [nI_add] at hx2
  subst hx2
  refine n_letter hL hM (by omega) ⟨fun z => ?_, fun z => ?_⟩
  · have q := (chr (b := 46) (LOK_126 hL _) (by omega)).mp z
    rw [if_pos q] at h1 h0
    have hkg := LOK_lt hL (k := k + g) (by omega)
    have e2 := dgN_len hL 3 (k + g + 1) (by omega)
    rw [nI_1]
    refine n_digitsM (m := 3) hL hM (by omega) (by omega) ⟨fun z2 => ?_, fun z2 => ?_⟩
    · have q2 : ¬ dgN L 3 (k + g + 1) = 0 := fun e => z2 (by rw [e]; rfl)
      rw [if_neg q2] at h1
      rw [nI_add]
      exact h1 rfl
    · have q2 : dgN L 3 (k + g + 1) = 0 := (nI_eq (b := 0) (by omega) (by decide)).mp z2
      rw [if_pos q2] at h0
      rw [m2n (by omega)]
      exact h0 rfl
  · have q : ¬ L (k + g) = 46 := fun e => z (by rw [e]; rfl)
    rw [if_neg q] at h1
    exact h1 rfl
theorem n_namEnd {s : RT} {L : Nat → Nat} {len k : Nat} {K : Int32 → Prop} (hL : LOK L len) (hM : MT s L len) (hk : k < len) (h1 : (namP L k).1 = true → K (nI (namP L k).2.1)) (h0 : (namP L k).1 = false → K (-1 - nI (namP L k).2.1)) : wp_X10_nameEnd s (nI k) K := by
  have h80 := hL.1
  unfold namP at h1 h0
  have hwi : ∀ {a : Nat}, a ≤ 126 → wi (nI a) 48 50 = decide (48 ≤ a ∧ a ≤ 50) := by
    intro a ha
    unfold wi
    rw [nI_int (by omega), show (48 : Int32).toInt = 48 from rfl, show (50 : Int32).toInt = 50 from rfl, ← Bool.decide_and]
    apply decide_eq_decide.mpr; omega
  intro x1 hx1
  rw [nI_1] at hx1
  subst hx1
  refine n_letter hL hM (by omega) ⟨fun z => ?_, fun z x9 hx9 => ?_⟩
  · have q : ¬ L (k + 1) = 39 := fun e => z (by rw [e]; rfl)
    rw [if_neg q] at h1 h0
    refine n_letter hL hM (by omega) ⟨fun z2 => ?_, fun z2 => ?_⟩
    · have q2 := (chr (b := 64) (LOK_126 hL _) (by omega)).mp z2
      rw [if_pos q2] at h1 h0
      rw [nI_1]
      refine n_letter hL hM (by omega) (n_within ?_)
      rw [hwi (LOK_126 hL _)]
      by_cases q3 : 48 ≤ L (k + 2) ∧ L (k + 2) ≤ 50
      · rw [if_pos q3] at h1
        rw [show decide (48 ≤ L (k + 1 + 1) ∧ L (k + 1 + 1) ≤ 50) = true from decide_eq_true q3]
        refine ⟨fun w => absurd w (by decide), fun _ => ?_⟩
        rw [show (2 : Int32) = nI 2 from rfl, nI_add]
        exact h1 rfl
      · rw [if_neg q3] at h0
        rw [show decide (48 ≤ L (k + 1 + 1) ∧ L (k + 1 + 1) ≤ 50) = false from decide_eq_false q3]
        refine ⟨fun _ => ?_, fun w => absurd rfl w⟩
        rw [m2n (by omega)]
        exact h0 rfl
    · have q2 : ¬ L (k + 1) = 64 := fun e => z2 (by rw [e]; rfl)
      rw [if_neg q2] at h1
      exact h1 rfl
  · have q := (chr (b := 39) (LOK_126 hL _) (by omega)).mp z
    rw [if_pos q] at h1 h0
    rw [nI_1] at hx9
    subst hx9
    refine n_letter hL hM (by omega) ⟨fun z2 => ?_, fun z2 => ?_⟩
    · have q2 : L (k + 2) = 64 := (chr (b := 64) (LOK_126 hL _) (by omega)).mp z2
      rw [if_pos q2] at h1 h0
      refine n_letter hL hM (by omega) ⟨fun _ => ?_, fun w => absurd z2 w⟩
      rw [nI_1]
      refine n_letter hL hM (by omega) (n_within ?_)
      rw [hwi (LOK_126 hL _)]
      by_cases q3 : 48 ≤ L (k + 3) ∧ L (k + 3) ≤ 50
      · rw [if_pos q3] at h1
        rw [show decide (48 ≤ L (k + 1 + 1 + 1) ∧ L (k + 1 + 1 + 1) ≤ 50) = true from decide_eq_true q3]
        refine ⟨fun w => absurd w (by decide), fun _ => ?_⟩
        rw [show (2 : Int32) = nI 2 from rfl, nI_add]
        exact h1 rfl
      · rw [if_neg q3] at h0
        rw [show decide (48 ≤ L (k + 1 + 1 + 1) ∧ L (k + 1 + 1 + 1) ≤ 50) = false from decide_eq_false q3]
        refine ⟨fun _ => ?_, fun w => absurd rfl w⟩
        rw [m2n (by omega)]
        exact h0 rfl
    · have q2 : ¬ L (k + 2) = 64 := fun e => z2 (by show nI (L (k + 2)) = _; rw [e]; rfl)
      rw [if_neg q2] at h0
      exact h0 rfl
/-- a number, a name or t where a unit is wanted -/
theorem run_simple {K : Int32 → RT → Prop} {S : Nat → RP} {b : Bool} {L : Nat → Nat} {len : Nat} {y : RT} {o k : Nat} (hL : LOK L len) (hM : MT y L len) (hc : isD (L k) = true ∨ isNm (L k) = true ∨ L k = 116) (h : PostM K len y o (bareP S b L k)) : Run K len y o 1 k := by
  have h80 := hL.1
  have h126 := LOK_126 hL k
  have hk : k < len := LOK_lt hL (by
    rcases hc with w | w | w
    · have := isD_iff.mp w; omega
    · have := isNm_iff.mp w; omega
    · omega)
  have h' := h y (SameG_r y) (fun _ _ => rfl)
  unfold bareP at h'
  have h54 : ∀ g : Nat, len + 1 - (k + 1) ≤ g → 1 ≤ g → jp_X10_faultOf_54 K (fun v0 v1 v2 v3 => lp_X10_faultOf_6 K g v0 v1 v2 v3) (nI o) (nI k) (nI (L k)) y := by
    intro g hg hg1
    refine n_isDigitM h126 ⟨fun z => n_isNameM h126 ⟨fun z2 => ?_, fun z2 => ?_⟩, fun z => ?_⟩
    · have q1 : ¬ isD (L k) = true := fun e => by rw [e] at z; exact absurd z (by decide)
      have q2 : ¬ isNm (L k) = true := fun e => by rw [e] at z2; exact absurd z2 (by decide)
      have q3 : L k = 116 := by
        rcases hc with w | w | w
        · exact absurd w q1
        · exact absurd w q2
        · exact w
      rw [if_neg q1, if_neg q2, if_pos q3] at h'
      rw [nI_1]
      exact j345 (by omega) (h'.1 rfl g hg hg1)
    · have q1 : ¬ isD (L k) = true := fun e => by rw [e] at z; exact absurd z (by decide)
      have q2 : isNm (L k) = true := by
        cases e : isNm (L k)
        · rw [e] at z2; exact absurd rfl z2
        · rfl
      rw [if_neg q1, if_pos q2] at h'
      refine n_namEnd hL hM hk (fun e => ?_) (fun e => ?_)
      · have ok := nam_ok hL q2 e
        exact j345 (by omega) (h'.1 e g (by omega) hg1)
      · have := nam_pos (L := L) (k := k)
        exact j345n (by omega) (h'.2 e)
    · have q1 : isD (L k) = true := by
        cases e : isD (L k)
        · rw [e] at z; exact absurd rfl z
        · rfl
      rw [if_pos q1] at h'
      refine n_numEnd hL hM (by omega) (fun e => ?_) (fun e => ?_)
      · have ok := num_ok hL q1 e
        exact j345 (by omega) (h'.1 e g (by omega) hg1)
      · have := num_pos (L := L) (k := k)
        exact j345n (by omega) (h'.2 e)
  refine run_in hM h80 hk (fun g hg hg1 => ⟨fun z => absurd z (by decide), fun _ => n_isDigitM h126 ⟨fun _ => h54 g hg hg1, fun z => ⟨fun _ => h54 g hg hg1, fun z2 => n_isNameM h126 ⟨fun z3 => ?_, fun _ => h54 g hg hg1⟩⟩⟩⟩)
  exfalso
  rcases hc with w | w | w
  · rw [w] at z; exact absurd z (by decide)
  · rw [w] at z3; exact absurd z3 (by decide)
  · exact z2 (by rw [w]; rfl)
/-- no number, no name, no t where a unit is wanted -/
theorem run_other {K : Int32 → RT → Prop} {L : Nat → Nat} {len : Nat} {y : RT} {o k : Nat} (hL : LOK L len) (hM : MT y L len) (hk : k < len) (h1 : ¬ isD (L k) = true) (h2 : ¬ isNm (L k) = true) (h3 : ¬ L k = 116) (h : ∀ g : Nat, len + 1 - (k + 1) ≤ g → 1 ≤ g → jp_X10_faultOf_96 K (fun v0 v1 v2 v3 => lp_X10_faultOf_6 K g v0 v1 v2 v3) (nI o) 1 (nI k) (nI (L k)) (nI (k + 1)) y) : Run K len y o 1 k := by
  have h80 := hL.1
  have h126 := LOK_126 hL k
  refine run_in hM h80 hk (fun g hg hg1 => ⟨fun z => absurd z (by decide), fun _ => n_isDigitM h126 ⟨fun z => absurd (by rw [show isD (L k) = false by simpa using h1]; rfl) z, fun _ => ⟨fun z => absurd ((chr (b := 116) h126 (by omega)).mp z) h3, fun _ => n_isNameM h126 ⟨fun _ => h g hg hg1, fun z => absurd (by rw [show isNm (L k) = false by simpa using h2]; rfl) z⟩⟩⟩⟩)
theorem run_neg {K : Int32 → RT → Prop} {L : Nat → Nat} {len : Nat} {y : RT} {o k : Nat} (hL : LOK L len) (hM : MT y L len) (hc : L k = 45) (h : Run K len y o 1 (k + 1)) : Run K len y o 1 k := by
  have h80 := hL.1
  have h126 := LOK_126 hL k
  have hk := LOK_lt hL (k := k) (by omega)
  refine run_other hL hM hk (fun e => by have := isD_iff.mp e; omega) (fun e => by have := isNm_iff.mp e; omega) (by omega) (fun g hg hg1 => ⟨fun z => absurd z (by decide), fun _ => ?_⟩)
  rw [hc]
  refine ⟨fun z => absurd z (by decide), fun _ => ⟨fun _ => ⟨fun z => absurd z (by decide), fun _ => ⟨fun z => absurd rfl z, fun _ x26 hx26 => ?_⟩⟩, fun z => absurd z (by decide)⟩⟩
  have e : x26 = nI (k + 1) := hx26.trans (nI_1 k)
  subst e
  exact j345 (by omega) (h g hg hg1)
theorem run_bad {K : Int32 → RT → Prop} {L : Nat → Nat} {len : Nat} {y : RT} {o k : Nat} (hL : LOK L len) (hM : MT y L len) (ho : o ≤ 6) (hk : k ≤ len) (h1 : ¬ isD (L k) = true) (h2 : ¬ isNm (L k) = true) (h3 : ¬ L k = 116) (h4 : ¬ L k = 40) (h5 : ¬ L k = 109) (h6 : ¬ L k = 45) (h : K (nI k) y) : Run K len y o 1 k := by
  have h80 := hL.1
  have h126 := LOK_126 hL k
  by_cases e : k = len
  · subst e
    exact run_end hM h80 ho (fun _ => h) (fun z => absurd z (by decide))
  refine run_other hL hM (by omega) h1 h2 h3 (fun g hg hg1 => ⟨fun z => absurd z (by decide), fun _ => ⟨fun z => absurd ((chr (b := 40) h126 (by omega)).mp z) h4, fun _ => ⟨fun _ => ?_, fun z => absurd ((chr (b := 109) h126 (by omega)).mp z) h5⟩⟩⟩)
  exact ⟨fun z => absurd z (by decide), fun _ => ⟨fun _ => ⟨fun _ => ⟨fun _ => ⟨fun _ => h, fun z => absurd z (by decide)⟩, fun z => absurd z (by decide)⟩, fun z => absurd z (by decide)⟩, fun z => absurd ((chr (b := 45) h126 (by omega)).mp z) h6⟩⟩
