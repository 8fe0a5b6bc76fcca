/-! steps fit -/
theorem rdS_y {P : PB} {t : Int32} {h : Nat} (q : shortS P t h) : rdS P t h = bR P := by unfold rdS; exact if_pos q
theorem rdS_n {P : PB} {t : Int32} {h : Nat} (q : ¬ shortS P t h) : rdS P t h = 0 := by unfold rdS; exact if_neg q
section
variable {A : AB}
theorem n_isBreak {t : Nat} {K : Int32 → Prop} (hA : AOK A) (ht : t < 2147483648) (h : ∀ i, i < qn (aG A) → qT (aG A) i ≠ t) (hK : K 0) : wp_L_isBreak A (nI t) K := by
  have h40 := (br_n hA).1
  have hT8 : ∀ i, i < qn (aG A) → qT (aG A) i ≤ 8000 := (brk_ok hA.1.1 hA.1.2.1).1.2.2.2
  have key : ∀ f i, f + i = qn (aG A) → lp_L_isBreak_2 A (nI t) K (f + 1) (nI i) := by
    intro f
    induction f with
    | zero => intro i hi; exact ⟨fun _ => hK, fun q => absurd (by rw [q5]; exact nI_le (by omega) (by omega)) q⟩
    | succ f ih =>
      intro i hi
      have hin : i < qn (aG A) := by omega
      have h8 := hT8 i hin
      refine ⟨fun q => ?_, fun _ => ⟨fun _ x3 h3 => ?_, fun q => ?_⟩⟩
      · rw [q5] at q
        have := (nI_leI (by omega) (by omega)).mp q
        omega
      · rw [nI_1] at h3
        subst h3
        exact ih (i + 1) (by omega)
      · rw [(br_at hA hin).1] at q
        exact absurd ((nI_eq (by omega) ht).mp q) (h i hin)
  exact ⟨_, key (qn (aG A)) 0 rfl⟩
theorem st_at (hA : AOK A) {k : Nat} (hk : k < (aT A).1) : qr_step A (nI k) 0 = (aT A).2.2 (k * 8) ∧ qr_step A (nI k) 1 = (aT A).2.2 ((k + 1) * 8) - (aT A).2.2 (k * 8) ∧ qr_step A (nI k) 5 = (aT A).2.2 (k * 8 + 7) ∧ ∀ v, v < 3 → qr_step A (nI k) ((2 : Int32) + nI v) = (aT A).2.2 (k * 8 + 4 + v) := by
  have hn := (endA hA).2.2.1
  have n1 : ∀ w : Int32, wi w 0 5 = true → ¬ (nI k < 0 ∨ wi w 0 5 = false) := fun w hw q => q.elim (fun z => nI_pos (by omega) z) (fun z => by rw [hw] at z; exact absurd z (by decide))
  have n2 : ¬ nI (aT A).1 ≤ nI k := fun z => by have := (nI_leI (by omega) (by omega)).mp z; omega
  unfold qr_step
  rw [nI_clamp (show k < 2147483648 by omega)]
  refine ⟨?_, ?_, ?_, fun v hv => ?_⟩
  · rw [if_neg (n1 0 (by decide)), if_neg n2, if_pos rfl]
  · rw [if_neg (n1 1 (by decide)), if_neg n2, if_neg (by decide), if_pos rfl]
  · rw [if_neg (n1 5 (by decide)), if_neg n2, if_neg (by decide), if_neg (by decide), if_pos rfl]
  · rw [show (2 : Int32) + nI v = nI (2 + v) by rw [show (2 : Int32) = nI 2 from rfl, nI_add]]
    have hw : wi (nI (2 + v)) 0 5 = true := wi_eq.mpr (by
      have e0 : (0 : Int32).toInt = 0 := by decide
      have e5 : (5 : Int32).toInt = 5 := by decide
      rw [nI_int (by omega)]; omega)
    have ne : ∀ c : Nat, c < 2147483648 → 2 + v ≠ c → ¬ nI (2 + v) = nI c := fun c hc h q => h ((nI_eq (by omega) hc).mp q)
    rw [if_neg (n1 _ hw), if_neg n2, if_neg (show ¬ nI (2 + v) = 0 from ne 0 (by decide) (by omega)), if_neg (show ¬ nI (2 + v) = 1 from ne 1 (by decide) (by omega)), if_neg (show ¬ nI (2 + v) = 5 from ne 5 (by decide) (by omega)), nI_clamp (by omega), show 2 + v - 2 = v by omega]
theorem st_out (hA : AOK A) : qr_step A (nI (aT A).1) 0 = -2000000004 := by
  have hn := (endA hA).2.2.1
  unfold qr_step
  rw [if_neg (fun q => q.elim (fun z => nI_pos (by omega) z) (fun z => absurd z (by decide))), if_pos (nI_le (Nat.le_refl _) (by omega))]
theorem rt_at (hA : AOK A) {v t : Nat} (hv : v < 3) (ht : t ≤ (aT A).2.1) : qr_right A (nI v) (nI t) = iz (stK (aP A) (aT A).1 t (aT A).2.2 v) := by
  have h8 := (endA hA).2.1
  have e0 : (0 : Int32).toInt = 0 := by decide
  have e2 : (2 : Int32).toInt = 2 := by decide
  have e8 : (8000 : Int32).toInt = 8000 := by decide
  have ev : (nI v).toInt = (v : Int) := nI_int (by omega)
  have et : (nI t).toInt = (t : Int) := nI_int (by omega)
  unfold qr_right
  rw [if_pos ⟨wi_eq.mpr (by omega), wi_eq.mpr (by omega)⟩, if_pos (by omega), nI_clamp (show v < 2147483648 by omega), nI_clamp (show t < 2147483648 by omega)]
theorem sf251 (hA : AOK A) {K : Int32 → Prop} {k28 : Int32 → Int32 → Int32 → Int32 → Prop} {x1 : Int32} {tn h k : Nat} (hh : 1 ≤ h) (h5 : h ≤ 500) (h8 : tn + h ≤ 8000) (hb : ∀ i, i < qn (aG A) → qT (aG A) i ≤ tn ∨ tn + h ≤ qT (aG A) i) (hK : k28 x1 (nI (tn + h)) 1 (nI (k + 1))) : ∀ (f t : Nat), tn < t → t ≤ 9000 → tn + h ≤ f + t → lp_L_stepsFit_251 A K k28 (f + 1) x1 (nI tn) 1 (nI k) (nI h) (nI t) := by
  have j293 : jp_L_stepsFit_293 A K k28 x1 (nI tn) 1 (nI k) (nI h) := fun x15 h15 x16 h16 => by rw [h15, h16, nI_add, nI_1]; exact hK
  intro f
  induction f with
  | zero => intro t a b c; exact ⟨fun _ => j293, fun q => absurd (by rw [nI_add]; exact nI_le (by omega) (by omega)) q⟩
  | succ f ih =>
    intro t a b c
    refine ⟨fun _ => j293, fun q => ⟨fun q2 => absurd q2 (by decide), fun _ => ?_⟩⟩
    have hlt : t < tn + h := by
      rcases Nat.lt_or_ge t (tn + h) with w | w
      · exact w
      · exact absurd (by rw [nI_add]; exact nI_le w (by omega)) q
    refine n_isBreak hA (by omega) (fun i hi e => ?_) ⟨fun q => absurd rfl q, fun _ x20 h20 => ?_⟩
    · have := hb i hi
      omega
    · have hd : h / 5 ≤ h := Nat.div_le_self _ _
      have e : nI t + ((1 : Int32) + nI h / 5) = nI (t + (1 + h / 5)) := by
        rw [show (5 : Int32) = nI 5 from rfl, nI_div (by omega) (by decide), show (1 : Int32) = nI 1 from rfl, nI_add, nI_add]
      rw [e] at h20
      subst h20
      exact ih _ (by omega) (by omega) (by omega)
theorem sf204 (hA : AOK A) {K : Int32 → Prop} {k28 : Int32 → Int32 → Int32 → Int32 → Prop} {x1 : Int32} {tn h k : Nat} (hk : k < (aT A).1) (hh : 1 ≤ h) (h5 : h ≤ 500) (h8 : tn + h ≤ 8000) (he : tn ≤ (aT A).2.1) (hb : ∀ i, i < qn (aG A) → qT (aG A) i ≤ tn ∨ tn + h ≤ qT (aG A) i) (hr : ∀ v, v < 3 → (aT A).2.2 (k * 8 + 4 + v) = iz (stK (aP A) (aT A).1 tn (aT A).2.2 v)) (hK : k28 x1 (nI (tn + h)) 1 (nI (k + 1))) : ∀ (f v : Nat), f + v = 3 → lp_L_stepsFit_204 A K k28 (f + 1) x1 (nI tn) 1 (nI k) (nI h) (nI v) := by
  have j246 : jp_L_stepsFit_246 A K k28 x1 (nI tn) 1 (nI k) (nI h) := fun x13 h13 => by
    rw [h13, nI_1]
    exact ⟨h + 1, sf251 hA hh h5 h8 hb hK h (tn + 1) (by omega) (by omega) (by omega)⟩
  intro f
  induction f with
  | zero => intro v a; exact ⟨fun _ => j246, fun q => absurd (nI_le (a := 3) (by omega) (by omega)) q⟩
  | succ f ih =>
    intro v a
    have hv : v < 3 := by omega
    refine ⟨fun _ => j246, fun _ => ⟨fun q => absurd q (by decide), fun _ => ⟨fun q => ?_, fun _ x24 h24 => ?_⟩⟩⟩
    · exact absurd (by rw [rt_at hA hv he, (st_at hA hk).2.2.2 v hv, hr v hv]) q
    · rw [nI_1] at h24
      subst h24
      exact ih (v + 1) (by omega)
theorem sf109 (hA : AOK A) {K : Int32 → Prop} {k28 : Int32 → Int32 → Int32 → Int32 → Prop} {x1 : Int32} {tn h k : Nat} (hk : k < (aT A).1) (hh : 1 ≤ h) (h5 : h ≤ 500) (h8 : tn + h ≤ 8000) (he : tn ≤ (aT A).2.1) (hb : ∀ i, i < qn (aG A) → qT (aG A) i ≤ tn ∨ tn + h ≤ qT (aG A) i) (hr : ∀ v, v < 3 → (aT A).2.2 (k * 8 + 4 + v) = iz (stK (aP A) (aT A).1 tn (aT A).2.2 v)) (hK : k28 x1 (nI (tn + h)) 1 (nI (k + 1))) : ∀ (f i : Nat) (x7 : Int32), f + i = 3 → ((x7 = 1 ∧ ∃ d, d < i ∧ usP (aP A) d ∧ (lgI (aP A) d (nI tn + nI h)).toInt ≠ 0 ∧ (lgI (aP A) d (nI tn + nI h)).toInt < h) ∨ (x7 = 0 ∧ ¬ ∃ d, d < i ∧ usP (aP A) d ∧ (lgI (aP A) d (nI tn + nI h)).toInt ≠ 0 ∧ (lgI (aP A) d (nI tn + nI h)).toInt < h)) → lp_L_stepsFit_109 A K k28 (f + 1) x1 (nI tn) 1 (nI k) (nI h) (nI (rdS (aP A) (nI tn + nI h) h)) x7 (nI i) := by
  have j204 : ∀ x : Int32, x = nI (rdS (aP A) (nI tn + nI h) h) → jp_L_stepsFit_192 A K k28 x1 (nI tn) (nI k) (nI h) x (nI (rdS (aP A) (nI tn + nI h) h)) := fun x hx => ⟨fun q => absurd hx.symm q, fun _ => ⟨4, sf204 hA hk hh h5 h8 he hb hr hK 3 0 rfl⟩⟩
  have fin : ∀ x7 : Int32, ((x7 = 1 ∧ ∃ d, d < 3 ∧ usP (aP A) d ∧ (lgI (aP A) d (nI tn + nI h)).toInt ≠ 0 ∧ (lgI (aP A) d (nI tn + nI h)).toInt < h) ∨ (x7 = 0 ∧ ¬ ∃ d, d < 3 ∧ usP (aP A) d ∧ (lgI (aP A) d (nI tn + nI h)).toInt ≠ 0 ∧ (lgI (aP A) d (nI tn + nI h)).toInt < h)) → ((1 : Int32) = (0 : Int32) → jp_L_stepsFit_199 A K k28 x1 (nI tn) (nI k) (nI h)) ∧ (¬ (1 : Int32) = (0 : Int32) → ((x7 = (0 : Int32) → jp_L_stepsFit_192 A K k28 x1 (nI tn) (nI k) (nI h) (0 : Int32) (nI (rdS (aP A) (nI tn + nI h) h))) ∧ (¬ x7 = (0 : Int32) → jp_L_stepsFit_192 A K k28 x1 (nI tn) (nI k) (nI h) (qr_count A (1 : Int32)) (nI (rdS (aP A) (nI tn + nI h) h))))) := by
    intro x7 hx
    refine ⟨fun q => absurd q (by decide), fun _ => ⟨fun q => j204 _ ?_, fun q => j204 _ ?_⟩⟩
    · rcases hx with ⟨w, _⟩ | ⟨_, w⟩
      · rw [w] at q; exact absurd q (by decide)
      · rw [rdS_n w]; rfl
    · rcases hx with ⟨_, w⟩ | ⟨w, _⟩
      · rw [rdS_y w]; rfl
      · exact absurd w q
  intro f
  induction f with
  | zero =>
    intro i x7 a b
    have : i = 3 := by omega
    subst this
    exact ⟨fun _ => fin x7 b, fun q => absurd (nI_le (a := 3) (Nat.le_refl 3) (by decide)) q⟩
  | succ f ih =>
    intro i x7 a b
    have hi : i < 3 := by omega
    have e109 : ¬ (3 : Int32) ≤ nI i := fun q => by have := (nI_leI (a := 3) (by decide) (by omega)).mp q; omega
    refine ⟨fun q => absurd q e109, fun _ x27 h27 => ?_⟩
    rw [nI_add] at h27
    obtain ⟨l1, l2, l3⟩ := lag_in hA hi h8
    have elg : (lgI (aP A) i (nI tn + nI h)).toInt = lagI (bc (aP A) i) (bp (aP A) i) ((tn + h : Nat) : Int) := by
      rw [nI_add]
      have := (lg_in hA.1.1 hi (t := nI (tn + h)) (by rw [nI_int (by omega)]; omega) (by rw [nI_int (by omega)]; omega)).1
      rw [nI_int (by omega)] at this
      exact this
    have eh : (nI h).toInt = (h : Int) := nI_int (by omega)
    have e0 : (0 : Int32).toInt = 0 := by decide
    have yes : (∃ d, d < i + 1 ∧ usP (aP A) d ∧ (lgI (aP A) d (nI tn + nI h)).toInt ≠ 0 ∧ (lgI (aP A) d (nI tn + nI h)).toInt < h) → jp_L_stepsFit_159 A K k28 (fun v0 v1 v2 v3 v4 v5 v6 v7 => lp_L_stepsFit_109 A K k28 (f + 1) v0 v1 v2 v3 v4 v5 v6 v7) x1 (nI tn) 1 (nI k) (nI h) (nI (rdS (aP A) (nI tn + nI h) h)) (nI i) := fun hy x29 h29 => by
      rw [nI_1] at h29
      subst h29
      exact ih (i + 1) 1 (by omega) (Or.inl ⟨rfl, hy⟩)
    have no : (¬ ∃ d, d < i + 1 ∧ usP (aP A) d ∧ (lgI (aP A) d (nI tn + nI h)).toInt ≠ 0 ∧ (lgI (aP A) d (nI tn + nI h)).toInt < h) → jp_L_stepsFit_163 A K k28 (fun v0 v1 v2 v3 v4 v5 v6 v7 => lp_L_stepsFit_109 A K k28 (f + 1) v0 v1 v2 v3 v4 v5 v6 v7) x1 (nI tn) 1 (nI k) (nI h) (nI (rdS (aP A) (nI tn + nI h) h)) (nI i) := fun hy x31 h31 => by
      rw [nI_1] at h31
      subst h31
      exact ih (i + 1) 0 (by omega) (Or.inr ⟨rfl, hy⟩)
    have none' : x7 = 0 → ¬ (usP (aP A) i ∧ lagI (bc (aP A) i) (bp (aP A) i) ((tn + h : Nat) : Int) ≠ 0 ∧ lagI (bc (aP A) i) (bp (aP A) i) ((tn + h : Nat) : Int) < h) → ¬ ∃ d, d < i + 1 ∧ usP (aP A) d ∧ (lgI (aP A) d (nI tn + nI h)).toInt ≠ 0 ∧ (lgI (aP A) d (nI tn + nI h)).toInt < h := by
      rintro hx hn ⟨d, d1, d2, d3, d4⟩
      by_cases e : d = i
      · subst e
        rw [elg] at d3 d4
        exact hn ⟨d2, d3, d4⟩
      · rcases b with ⟨w, _⟩ | ⟨_, w⟩
        · rw [hx] at w; exact absurd w (by decide)
        · exact w ⟨d, by omega, d2, d3, d4⟩
    subst h27
    rw [q14]
    refine ⟨fun q => yes ?_, fun q => ⟨fun q2 => no (none' q (fun w => q2 ((us_bit hi).mpr w.1))), fun q2 => ⟨fun q3 => no (none' q (fun w => ?_)), fun q3 => ⟨fun q4 => no (none' q (fun w => ?_)), fun q4 => yes ?_⟩⟩⟩⟩
    · rcases b with ⟨_, d, d1, d2⟩ | ⟨w, _⟩
      · exact ⟨d, by omega, d2⟩
      · exact absurd w q
    · rw [i_le, l3, e0] at q3
      have := w.2.1
      omega
    · rw [i_le, l3, eh] at q4
      have := w.2.2
      omega
    · rw [i_le, l3, e0] at q3
      rw [i_le, l3, eh] at q4
      exact ⟨i, by omega, (us_bit hi).mp q2, by rw [elg]; omega, by rw [elg]; omega⟩
theorem sf28 (hA : AOK A) {K : Int32 → Prop} (hK : K 1) : ∀ (f k : Nat), f + k = (aT A).1 → lp_L_stepsFit_28 A K (f + 1) (nI (aT A).1) ((aT A).2.2 (k * 8)) 1 (nI k) := by
  obtain ⟨g1, g2, g3, g4, g5⟩ := endA hA
  have hS : bS (aP A) ≤ 500 := hA.1.1.2.2.2.1.2
  have hR : bR (aP A) ≤ 4 := hA.1.1.2.2.2.2.1
  intro f
  induction f with
  | zero =>
    intro k a
    have : k = (aT A).1 := by omega
    subst this
    refine ⟨fun _ => ⟨fun q => absurd q (by decide), fun _ => ⟨fun q => absurd (by rw [g1]; rfl) q, fun _ => hK⟩⟩, fun q => absurd (nI_le (Nat.le_refl _) (by omega)) q⟩
  | succ f ih =>
    intro k a
    have hk : k < (aT A).1 := by omega
    obtain ⟨s0, s1, s5, -⟩ := st_at hA hk
    obtain ⟨tn, h, a1, a2, a3, a4, a5, a6, a7, a8⟩ := rowsA hA k hk
    have hle : tn ≤ (aT A).2.1 := by
      have h1 := POK_mono g4 hk (Nat.le_refl _)
      rw [a1, g1, nI_int (by omega), nI_int (by omega)] at h1
      omega
    refine ⟨fun q => ?_, fun _ => ⟨fun q => absurd q (by decide), fun _ x7 h7 x8 h8 => ?_⟩⟩
    · have := (nI_leI (by omega) (by omega)).mp q
      omega
    have e7 : x7 = nI h := by
      rw [h7, s1, a6, a1, pk_sub (by omega)]
      congr 1; omega
    have e8 : x8 = nI (rdS (aP A) (nI tn + nI h) h) := h8.trans (s5.trans a8)
    subst e7; subst e8
    have hrd := rdS_le hA.1.1 (t := nI tn + nI h) (h := h)
    have hrd' : rdS (aP A) (nI tn + nI h) h ≤ 4 := hrd
    have nx := ih (k + 1) (by omega)
    rw [a6] at nx
    rw [a1]
    have j97 : jp_L_stepsFit_97 A K (fun v0 v1 v2 v3 => lp_L_stepsFit_28 A K (f + 1) v0 v1 v2 v3) (nI (aT A).1) (nI tn) (nI k) (nI h) (nI (rdS (aP A) (nI tn + nI h) h)) := ⟨4, sf109 hA hk a2 (by omega) a4 hle a5 a7 nx 3 0 0 rfl (Or.inr ⟨rfl, fun ⟨d, d1, _⟩ => absurd d1 (Nat.not_lt_zero d)⟩)⟩
    refine ⟨fun q => absurd (s0.trans a1) q, fun _ => ⟨fun q => ?_, fun _ => ⟨fun q => ?_, fun _ => ⟨fun _ => j97, fun q => ⟨fun q2 => absurd ?_ q2, fun _ => j97⟩⟩⟩⟩⟩
    · have := (nI_leI (b := 0) (by omega) (by decide)).mp q
      omega
    · rw [q0] at q
      have := (nI_ltI (by omega) (by omega)).mp q
      omega
    · rw [q1]
      by_cases w : shortS (aP A) (nI tn + nI h) h
      · rw [rdS_y w]
      · exact absurd (by rw [rdS_n w]; rfl) q
theorem n_stepsFit {K : Int32 → Prop} (hA : AOK A) (hK : K 1) : wp_L_stepsFit A K := by
  intro x1 h1
  rw [q4] at h1
  subst h1
  refine ⟨fun q => absurd (st_out hA) q, fun _ => ⟨(aT A).1 + 1, ?_⟩⟩
  have h := sf28 hA hK (aT A).1 0 rfl
  rw [show 0 * 8 = 0 from rfl, (endA hA).2.2.2.1.1] at h
  exact h
end
