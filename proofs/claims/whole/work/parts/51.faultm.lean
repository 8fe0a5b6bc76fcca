/-! the reference looks for the fault: its steps -/
def MT (m : RT) (L : Nat → Nat) (len : Nat) : Prop := m.2.2 6 = nI len ∧ ∀ i, i < len → m.1 5 i = nI (L i)
def SameG (y y' : RT) : Prop := (∀ j, j ≠ 21 → y'.1 j = y.1 j) ∧ y'.2 = y.2
theorem SameG_r (y : RT) : SameG y y := ⟨fun _ _ => rfl, rfl⟩
theorem SameG_t {a b c : RT} (h : SameG a b) (k : SameG b c) : SameG a c := ⟨fun j hj => (k.1 j hj).trans (h.1 j hj), k.2.trans h.2⟩
theorem SameG_s (y : RT) (f : Nat → Int32) : SameG y (rI y 21 f) := ⟨fun _ hj => if_neg hj, rfl⟩
theorem MT_G {y y' : RT} {L : Nat → Nat} {len : Nat} (h : MT y L len) (g : SameG y y') : MT y' L len := ⟨by rw [g.2]; exact h.1, fun i hi => by rw [g.1 5 (by decide)]; exact h.2 i hi⟩
def Run (K : Int32 → RT → Prop) (len : Nat) (y : RT) (o : Nat) (w : Int32) (k : Nat) : Prop := ∀ f, len + 1 - k ≤ f → 1 ≤ f → lp_X10_faultOf_6 K f (nI o) w (nI k) y
theorem n_letter {s : RT} {L : Nat → Nat} {len k : Nat} {K : Int32 → Prop} (hL : LOK L len) (hM : MT s L len) (hk : k < 1000) (h : K (nI (L k))) : wp_X10_letter s (nI k) K := by
  have h80 := hL.1
  unfold wp_X10_letter
  rw [hM.1]
  refine ⟨fun q => ?_, fun q => ?_⟩
  · have := (nI_leI (by omega) (by omega)).mp q
    rw [hL.2.2 k this] at h; exact h
  · have hlt : k < len := by
      rcases Nat.lt_or_ge k len with w | w
      · exact w
      · exact absurd (nI_le w (by omega)) q
    rw [nI_clamp (by omega), hM.2 k hlt]
    exact ⟨vp_in_nI (by omega) (by decide), h⟩
theorem n_isDigitM {c : Nat} {K : Int32 → Prop} (h : c ≤ 126) (h1 : K (b2 (isD c))) : wp_X10_isDigit (nI c) K := n_within (by rw [wi_isD h]; exact ⟨b2_nar _, h1⟩)
theorem n_isNameM {c : Nat} {K : Int32 → Prop} (h : c ≤ 126) (h1 : K (b2 (isNm c))) : wp_X10_isName (nI c) K := n_within (by rw [wi_isNm h]; exact ⟨b2_nar _, h1⟩)
theorem run_end {K : Int32 → RT → Prop} {L : Nat → Nat} {len : Nat} {y : RT} {o : Nat} {w : Int32} (hM : MT y L len) (h80 : len ≤ 80) (ho : o ≤ 6) (h : ¬ (w = 0 ∧ o = 0) → K (nI len) y) (h2 : w = 0 → o = 0 → K (-2000000004) y) : Run K len y o w len := by
  intro f _ hf
  obtain ⟨f, rfl⟩ : ∃ g, f = g + 1 := ⟨f - 1, by omega⟩
  refine ⟨fun _ => ?_, fun z => ?_⟩
  · rw [hM.1]
    refine ⟨fun z => h (fun e => z e.1), fun z => ⟨fun z2 => h2 z ?_, fun z2 => h (fun e => z2 (by rw [e.2]; decide))⟩⟩
    exact by
      have := (nI_leI (b := 0) (by omega) (by decide)).mp z2
      omega
  · rw [hM.1] at z
    exact absurd (nI_le (Nat.le_refl len) (by omega)) z
theorem run_in {K : Int32 → RT → Prop} {L : Nat → Nat} {len : Nat} {y : RT} {o k : Nat} {w : Int32} (hM : MT y L len) (h80 : len ≤ 80) (hk : k < len)
    (h : ∀ g : Nat, len + 1 - (k + 1) ≤ g → 1 ≤ g → ((w = 0 → jp_X10_faultOf_96 K (fun v0 v1 v2 v3 => lp_X10_faultOf_6 K g v0 v1 v2 v3) (nI o) w (nI k) (nI (L k)) (nI (k + 1)) y) ∧ (¬ w = 0 → wp_X10_isDigit (nI (L k)) (fun (r42 : Int32) => ((¬ r42 = (0 : Int32) → jp_X10_faultOf_54 K (fun v0 v1 v2 v3 => lp_X10_faultOf_6 K g v0 v1 v2 v3) (nI o) (nI k) (nI (L k)) y) ∧ (r42 = (0 : Int32) → ((nI (L k) = (116 : Int32) → jp_X10_faultOf_54 K (fun v0 v1 v2 v3 => lp_X10_faultOf_6 K g v0 v1 v2 v3) (nI o) (nI k) (nI (L k)) y) ∧ (¬ nI (L k) = (116 : Int32) → wp_X10_isName (nI (L k)) (fun (r51 : Int32) => ((r51 = (0 : Int32) → jp_X10_faultOf_96 K (fun v0 v1 v2 v3 => lp_X10_faultOf_6 K g v0 v1 v2 v3) (nI o) w (nI k) (nI (L k)) (nI (k + 1)) y) ∧ (¬ r51 = (0 : Int32) → jp_X10_faultOf_54 K (fun v0 v1 v2 v3 => lp_X10_faultOf_6 K g v0 v1 v2 v3) (nI o) (nI k) (nI (L k)) y))))))))))) : Run K len y o w k := by
  intro f hf _
  obtain ⟨g, rfl⟩ : ∃ g, f = g + 1 := ⟨f - 1, by omega⟩
  refine ⟨fun z => ?_, fun _ => ?_⟩
  · rw [hM.1] at z
    have := (nI_leI (by omega) (by omega)).mp z
    omega
  · rw [nI_clamp (by omega), hM.2 k hk]
    refine ⟨vp_in_nI (by omega) (by decide), fun x4 h4 x5 h5 => ?_⟩
    have e5 : x5 = nI (k + 1) := h5.trans (nI_1 k)
    subst h4; subst e5
    exact h g (by omega) (by omega)
theorem j345 {K : Int32 → RT → Prop} {k6 : Int32 → Int32 → Int32 → RT → Prop} {o w : Int32} {k : Nat} {y : RT} (hk : k < 1000) (h : k6 o w (nI k) y) : jp_X10_faultOf_345 K k6 o w (nI k) y := ⟨fun _ => h, fun z => absurd (nI_pos' (by omega)) z⟩
theorem j345n {K : Int32 → RT → Prop} {k6 : Int32 → Int32 → Int32 → RT → Prop} {o w : Int32} {k : Nat} {y : RT} (hk : k < 1000) (h : K (nI k) y) : jp_X10_faultOf_345 K k6 o w (-1 - nI k) y := by
  have e : (-1 - nI k : Int32).toInt = -1 - (k : Int) := i_sub rfl (nI_int (by omega)) ⟨by omega, by omega⟩
  refine ⟨fun z => ?_, fun _ => ?_⟩
  · rw [i_le, e] at z
    simp only [Int32.toInt_zero] at z
    omega
  · have e2 : (-1 : Int32) - (-1 - nI k) = nI k := by
      apply i_ext
      rw [i_sub (a := -1) rfl e ⟨by omega, by omega⟩, nI_int (by omega)]
      omega
    rw [e2]; exact h
theorem chr {a b : Nat} (ha : a ≤ 126) (hb : b ≤ 126) : nI a = nI b ↔ a = b := nI_eq (by omega) (by omega)
/-- behind a unit: a sign between -/
theorem run_op {K : Int32 → RT → Prop} {L : Nat → Nat} {len : Nat} {y : RT} {o k : Nat} (hL : LOK L len) (hM : MT y L len) (hop : L k = 43 ∨ L k = 45 ∨ L k = 42 ∨ L k = 47) (h : Run K len y o 1 (k + 1)) : Run K len y o 0 k := by
  have h80 := hL.1
  have hk := LOK_lt hL (k := k) (by omega)
  have h126 := LOK_126 hL k
  refine run_in hM h80 hk (fun g hg hg1 => ⟨fun _ => ⟨fun _ => ⟨fun _ => ⟨fun z => absurd rfl z, fun _ => ?_⟩, fun z => absurd rfl z⟩, fun z => absurd rfl z⟩, fun z => absurd rfl z⟩)
  rw [show (43 : Int32) = nI 43 from rfl, show (45 : Int32) = nI 45 from rfl, show (42 : Int32) = nI 42 from rfl, show (47 : Int32) = nI 47 from rfl, chr h126 (by omega), chr h126 (by omega), chr h126 (by omega), chr h126 (by omega)]
  have hj : jp_X10_faultOf_264 K (fun v0 v1 v2 v3 => lp_X10_faultOf_6 K g v0 v1 v2 v3) (nI o) (nI (k + 1)) y := j345 (by omega) (h g hg hg1)
  exact ⟨fun _ => hj, fun z1 => ⟨fun _ => hj, fun z2 => ⟨fun _ => hj, fun z3 => ⟨fun z4 => by omega, fun _ => hj⟩⟩⟩⟩
/-- behind a unit, no sign between follows -/
theorem j269 {K : Int32 → RT → Prop} {L : Nat → Nat} {len : Nat} {y : RT} {o k g : Nat} (h126 : L k ≤ 126) (hop : ¬ (L k = 43 ∨ L k = 45 ∨ L k = 42 ∨ L k = 47)) (h : jp_X10_faultOf_269 K (fun v0 v1 v2 v3 => lp_X10_faultOf_6 K g v0 v1 v2 v3) (nI o) 0 (nI k) (nI (L k)) (nI (k + 1)) y) : jp_X10_faultOf_96 K (fun v0 v1 v2 v3 => lp_X10_faultOf_6 K g v0 v1 v2 v3) (nI o) 0 (nI k) (nI (L k)) (nI (k + 1)) y := by
  refine ⟨fun _ => ⟨fun _ => ⟨fun z => absurd rfl z, fun _ => ?_⟩, fun z => absurd rfl z⟩, fun z => absurd rfl z⟩
  rw [show (43 : Int32) = nI 43 from rfl, show (45 : Int32) = nI 45 from rfl, show (42 : Int32) = nI 42 from rfl, show (47 : Int32) = nI 47 from rfl, chr h126 (by omega), chr h126 (by omega), chr h126 (by omega), chr h126 (by omega)]
  exact ⟨fun z => by omega, fun _ => ⟨fun z => by omega, fun _ => ⟨fun z => by omega, fun _ => ⟨fun _ => h, fun z => by omega⟩⟩⟩⟩
theorem run_close {K : Int32 → RT → Prop} {L : Nat → Nat} {len : Nat} {y : RT} {o k : Nat} (hL : LOK L len) (hM : MT y L len) (ho : o < 6) (hc : L k = 41) (hs : y.1 21 o = 1) (h : Run K len y o 0 (k + 1)) : Run K len y (o + 1) 0 k := by
  have h80 := hL.1
  have hk := LOK_lt hL (k := k) (by omega)
  have h126 := LOK_126 hL k
  refine run_in hM h80 hk (fun g hg hg1 => ⟨fun _ => j269 (len := len) h126 (by omega) ⟨fun z => absurd rfl z, fun _ => ⟨fun _ => ⟨fun z => absurd rfl z, fun _ => ⟨fun z => absurd (by rw [hc]; rfl) z, fun _ => ⟨fun z => absurd z (nI_nle (by omega) (by omega)), fun _ => ?_⟩⟩⟩, fun z => by rw [hc] at z; exact absurd z (by decide)⟩⟩, fun z => absurd rfl z⟩)
  rw [p1 (show o + 1 ≠ 0 by omega), show o + 1 - 1 = o from rfl, nI_clamp (by omega), hs]
  refine ⟨vp_in_nI (by omega) (by decide), fun z => absurd rfl z, fun _ x15 h15 => ?_⟩
  have e15 : x15 = nI o := h15.trans (pk_m1 o)
  subst e15
  exact j345 (by omega) (h g hg hg1)
theorem run_comma {K : Int32 → RT → Prop} {L : Nat → Nat} {len : Nat} {y : RT} {o k : Nat} (hL : LOK L len) (hM : MT y L len) (ho : o < 6) (hc : L k = 44) (hs : y.1 21 o = 2) (h : Run K len (rI y 21 (upd (y.1 21) o 1)) (o + 1) 1 (k + 1)) : Run K len y (o + 1) 0 k := by
  have h80 := hL.1
  have hk := LOK_lt hL (k := k) (by omega)
  have h126 := LOK_126 hL k
  refine run_in hM h80 hk (fun g hg hg1 => ⟨fun _ => j269 (len := len) h126 (by omega) ⟨fun z => absurd rfl z, fun _ => ⟨fun z => absurd (by rw [hc]; rfl) z, fun _ => ⟨fun z => absurd z (nI_nle (by omega) (by omega)), fun _ => ?_⟩⟩⟩, fun z => absurd rfl z⟩)
  rw [p1 (show o + 1 ≠ 0 by omega), show o + 1 - 1 = o from rfl, nI_clamp (by omega), hs]
  refine ⟨vp_in_nI (by omega) (by decide), fun z => absurd rfl z, fun _ => ⟨vp_in_nI (by omega) (by decide), fun s20 h20 => ?_⟩⟩
  subst h20
  exact j345 (by omega) (h g hg hg1)
/-- behind a unit, nothing that may follow: the fault -/
theorem run_stop {K : Int32 → RT → Prop} {L : Nat → Nat} {len : Nat} {y : RT} {o k : Nat} (hL : LOK L len) (hM : MT y L len) (ho : o ≤ 6) (hk : k ≤ len) (hop : ¬ (L k = 43 ∨ L k = 45 ∨ L k = 42 ∨ L k = 47)) (h1 : ∀ o', o = o' + 1 → L k = 41 → y.1 21 o' ≠ 1) (h2 : ∀ o', o = o' + 1 → L k = 44 → y.1 21 o' ≠ 2) (h : (k < len ∨ o ≠ 0) → K (nI k) y) (h0 : k = len → o = 0 → K (-2000000004) y) : Run K len y o 0 k := by
  have h80 := hL.1
  have h126 := LOK_126 hL k
  by_cases hkl : k = len
  · subst hkl
    exact run_end hM h80 ho (fun z => h (Or.inr (fun e => z ⟨rfl, e⟩))) (fun _ e => h0 rfl e)
  have hk2 : k < len := by omega
  have hK := h (Or.inl hk2)
  have h310 : ∀ g : Nat, jp_X10_faultOf_310 K (fun v0 v1 v2 v3 => lp_X10_faultOf_6 K g v0 v1 v2 v3) (nI o) 0 (nI k) (nI (L k)) (nI (k + 1)) y := by
    intro g
    refine ⟨fun z => absurd rfl z, fun _ => ⟨fun _ => hK, fun z => ⟨fun _ => hK, fun z2 => ?_⟩⟩⟩
    have o0 : o ≠ 0 := fun e => z2 (by rw [e]; decide)
    rw [p1 o0, nI_clamp (by omega)]
    refine ⟨vp_in_nI (by omega) (by decide), fun _ => hK, fun z3 => ?_⟩
    exact absurd z3 (h1 (o - 1) (by omega) ((chr (b := 41) h126 (by omega)).mp z))
  refine run_in hM h80 hk2 (fun g hg hg1 => ⟨fun _ => j269 (len := len) h126 hop ⟨fun z => absurd rfl z, fun _ => ⟨fun _ => h310 g, fun z => ⟨fun _ => h310 g, fun z2 => ?_⟩⟩⟩, fun z => absurd rfl z⟩)
  have o0 : o ≠ 0 := fun e => z2 (by rw [e]; decide)
  rw [p1 o0, nI_clamp (by omega)]
  refine ⟨vp_in_nI (by omega) (by decide), fun _ => h310 g, fun z3 => ?_⟩
  exact absurd z3 (h2 (o - 1) (by omega) ((chr (b := 44) h126 (by omega)).mp z))
