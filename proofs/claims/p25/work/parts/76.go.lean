/-! from step to step, up to a time -/
theorem nextN_spec {T : Nat → Nat} {t nb : Nat} : ∀ f k, k + f = nb → (∀ i, i < k → T i ≤ t) → (nextN T t f k = 8000 ∧ ∀ i, i < nb → T i ≤ t) ∨ ∃ i, i < nb ∧ nextN T t f k = T i ∧ t < T i := by
  intro f
  induction f with
  | zero => intro k h1 h2; exact Or.inl ⟨rfl, fun i hi => h2 i (by omega)⟩
  | succ f ih =>
    intro k h1 h2
    rw [nextN_s]
    by_cases q : t < T k
    · rw [if_pos q]; exact Or.inr ⟨k, by omega, rfl, q⟩
    · rw [if_neg q]
      refine ih (k + 1) (by omega) (fun i hi => ?_)
      by_cases e : i = k
      · subst e; omega
      · exact h2 i (by omega)
def cbN (T : Nat → Nat) (t : Nat) : Nat → Nat
  | 0 => 0
  | i + 1 => cbN T t i + if 0 < T i ∧ T i ≤ t then 1 else 0
theorem cbN_mono {T : Nat → Nat} {t t' : Nat} (h : t ≤ t') : ∀ n, cbN T t n ≤ cbN T t' n := by
  intro n
  induction n with
  | zero => exact Nat.le_refl _
  | succ n ih =>
    unfold cbN
    split <;> split <;> omega
theorem cbN_more {T : Nat → Nat} {t t' : Nat} (h : t ≤ t') : ∀ n i, i < n → t < T i → T i ≤ t' → cbN T t n + 1 ≤ cbN T t' n := by
  intro n
  induction n with
  | zero => intro i hi; omega
  | succ n ih =>
    intro i hi h1 h2
    unfold cbN
    by_cases e : i = n
    · subst e
      have := cbN_mono (T := T) h i
      rw [if_neg (by omega), if_pos (by omega)]
      omega
    · have := ih i (by omega) h1 h2
      split <;> split <;> omega
theorem cbN_le {T : Nat → Nat} {t : Nat} (h0 : T 0 = 0) : ∀ n, cbN T t (n + 1) ≤ n := by
  intro n
  induction n with
  | zero =>
    unfold cbN cbN
    rw [if_neg (by omega)]
    omega
  | succ n ih =>
    unfold cbN
    split <;> omega
abbrev PT : Type := Nat × Nat × (Nat → Int32)
def hN (P : PB) (T : Nat → Nat) (nb tn tgt : Nat) : Nat := min (bS P) (min (tgt - tn) (nextN T tn nb 0 - tn))
noncomputable def goN (P : PB) (T : Nat → Nat) (nb : Nat) : Nat → Nat → PT → PT
  | 0, _, st => st
  | f + 1, tgt, st => if tgt ≤ st.2.1 then st else goN P T nb f tgt (st.1 + 1, st.2.1 + hN P T nb st.2.1 tgt, stepG P st.1 st.2.1 st.2.2 (hN P T nb st.2.1 tgt))
def BrT (T : Nat → Nat) (nb : Nat) : Prop := nb ≤ 40 ∧ 0 < nb ∧ T 0 = 0 ∧ ∀ i, i < nb → T i ≤ 8000
def GOK (P : PB) (T : Nat → Nat) (nb e : Nat) (st : PT) : Prop := POK st.1 st.2.2 ∧ Row0 P st.2.2 ∧ st.2.2 (st.1 * 8) = nI st.2.1 ∧ st.2.1 ≤ 8000 ∧ st.1 * 20 ≤ st.2.1 + 20 * (cbN T st.2.1 nb + e)
theorem GOK_mono {P : PB} {T : Nat → Nat} {nb e e' : Nat} {st : PT} (h : GOK P T nb e st) (he : e ≤ e') : GOK P T nb e' st := ⟨h.1, h.2.1, h.2.2.1, h.2.2.2.1, by have := h.2.2.2.2; omega⟩
theorem GOK_n {P : PB} {T : Nat → Nat} {nb e : Nat} {st : PT} (hB : BrT T nb) (h : GOK P T nb e st) (he : e ≤ 512) : st.1 < 952 := by
  have h1 := h.2.2.2.2
  have h2 := h.2.2.2.1
  have h3 := cbN_le (t := st.2.1) hB.2.2.1 (nb - 1)
  have hb1 := hB.1
  have hb2 := hB.2.1
  rw [show nb - 1 + 1 = nb by omega] at h3
  omega
theorem hN_ok {P : PB} {T : Nat → Nat} {nb tn tgt : Nat} (hP : POKp P) (hB : BrT T nb) (h1 : tn < tgt) (h8 : tgt ≤ 8000) : 1 ≤ hN P T nb tn tgt ∧ hN P T nb tn tgt ≤ 500 ∧ tn + hN P T nb tn tgt ≤ tgt ∧ (tn + hN P T nb tn tgt = tgt ∨ 20 ≤ hN P T nb tn tgt ∨ ∃ i, i < nb ∧ T i = tn + hN P T nb tn tgt) := by
  have hs := hP.2.2.2.1
  have hx := nextN_spec (T := T) (t := tn) (nb := nb) nb 0 (by omega) (fun i hi => by omega)
  unfold hN
  have hle : ∀ i, i < nb → T i ≤ 8000 := hB.2.2.2
  rcases hx with ⟨e, _⟩ | ⟨i, a, b, c⟩
  · rw [e]
    omega
  · rw [b]
    have := hle i a
    refine ⟨by omega, by omega, by omega, ?_⟩
    by_cases q1 : tgt - tn ≤ T i - tn
    · by_cases q2 : bS P ≤ tgt - tn
      · exact Or.inr (Or.inl (by omega))
      · exact Or.inl (by omega)
    · by_cases q2 : bS P ≤ T i - tn
      · exact Or.inr (Or.inl (by omega))
      · exact Or.inr (Or.inr ⟨i, a, by omega⟩)
theorem GOK_step {P : PB} {T : Nat → Nat} {nb e tgt : Nat} {st : PT} (hP : POKp P) (hB : BrT T nb) (he : e < 512) (h : GOK P T nb e st) (h1 : st.2.1 < tgt) (h8 : tgt ≤ 8000) : GOK P T nb (e + 1) (st.1 + 1, st.2.1 + hN P T nb st.2.1 tgt, stepG P st.1 st.2.1 st.2.2 (hN P T nb st.2.1 tgt)) ∧ (st.2.1 + hN P T nb st.2.1 tgt < tgt → GOK P T nb e (st.1 + 1, st.2.1 + hN P T nb st.2.1 tgt, stepG P st.1 st.2.1 st.2.2 (hN P T nb st.2.1 tgt))) := by
  have hn := GOK_n hB h (by omega)
  obtain ⟨q1, q2, q3, q4⟩ := hN_ok (nb := nb) hP hB h1 h8
  generalize hN P T nb st.2.1 tgt = hh at q1 q2 q3 q4
  obtain ⟨g1, g2, g3, g4, g5⟩ := h
  have a1 := POK_step (h := hh) hP g1 g3 (by omega) q1 q2 (by omega)
  have a2 := Row0_step (n := st.1) (tn := st.2.1) (h := hh) g2
  have a3 : stepG P st.1 st.2.1 st.2.2 hh ((st.1 + 1) * 8) = nI (st.2.1 + hh) := stepG_t
  have cm := cbN_mono (T := T) (show st.2.1 ≤ st.2.1 + hh by omega) nb
  refine ⟨⟨a1, a2, a3, by show st.2.1 + hh ≤ 8000; omega, ?_⟩, fun hlt => ⟨a1, a2, a3, by show st.2.1 + hh ≤ 8000; omega, ?_⟩⟩
  · show (st.1 + 1) * 20 ≤ st.2.1 + hh + 20 * (cbN T (st.2.1 + hh) nb + (e + 1))
    omega
  · show (st.1 + 1) * 20 ≤ st.2.1 + hh + 20 * (cbN T (st.2.1 + hh) nb + e)
    rcases q4 with q | q | ⟨i, a, b⟩
    · omega
    · omega
    · have := cbN_more (T := T) (show st.2.1 ≤ st.2.1 + hh by omega) nb i a (by omega) (by omega)
      omega
theorem goN_ok {P : PB} {T : Nat → Nat} {nb e tgt : Nat} (hP : POKp P) (hB : BrT T nb) (he : e < 512) (h8 : tgt ≤ 8000) : ∀ (F : Nat) (st : PT), (st.2.1 < tgt → GOK P T nb e st) → GOK P T nb (e + 1) st → st.2.1 ≤ tgt → tgt - st.2.1 ≤ F → GOK P T nb (e + 1) (goN P T nb F tgt st) ∧ (goN P T nb F tgt st).2.1 = tgt := by
  intro F
  induction F with
  | zero => intro st h1 h2 h3 h4; exact ⟨h2, by show st.2.1 = tgt; omega⟩
  | succ F ih =>
    intro st h1 h2 h3 h4
    unfold goN
    by_cases q : tgt ≤ st.2.1
    · rw [if_pos q]; exact ⟨h2, by omega⟩
    · rw [if_neg q]
      obtain ⟨b1, b2⟩ := GOK_step hP hB he (h1 (by omega)) (by omega) h8
      obtain ⟨q1, q2, q3, -⟩ := hN_ok (nb := nb) (tn := st.2.1) hP hB (by omega) h8
      refine ih _ b2 b1 q3 ?_
      show tgt - (st.2.1 + hN P T nb st.2.1 tgt) ≤ F
      omega
theorem n_endTime {s : RT} {n tn : Nat} {g : Nat → Int32} {K : Int32 → Prop} (hX : PX s n g) (hn : n < 961) (ht : g (n * 8) = nI tn) (h : K (nI tn)) : wp_X4_endTime s K := by
  unfold wp_X4_endTime wp_X4_beginOf
  rw [hX.1, ix8]
  refine n_pick (by decide) ?_
  rw [pk_n (by decide) (by omega), hX.2 _ (by omega), ht]
  exact h
theorem SXp_18 {s s' : RT} {P : PB} (h : SXp s P) (hs : Same18 s s') : SXp s' P := by
  unfold SXp CDX HX at h ⊢
  rw [hs.1 2 (by decide), hs.1 3 (by decide), hs.1 4 (by decide), hs.1 6 (by decide), hs.1 7 (by decide), hs.1 9 (by decide), hs.1 10 (by decide), hs.1 11 (by decide), hs.1 12 (by decide)]
  exact h
theorem BX_18 {s s' : RT} {n : Nat} {T O D : Nat → Nat} (h : BX s n T O D) (hs : Same18 s s') : BX s' n T O D := by
  unfold BX at h ⊢
  rw [hs.1 14 (by decide), hs.1 15 (by decide), hs.1 16 (by decide), hs.2.2 0 (by decide)]
  exact h
theorem Same18_r (s : RT) : Same18 s s := ⟨fun _ _ => rfl, rfl, fun _ _ => rfl⟩
theorem n_advance {p s : RT} {P : PB} {T O D : Nat → Nat} {nb e tgt : Nat} {st : PT} {K : RT → RT → Prop} (hP : POKp P) (hB : BrT T nb) (he : e < 512) (hS : SXp s P) (hBX : BX s nb T O D) (hX : PX s st.1 st.2.2) (hG : GOK P T nb e st) (h1 : st.2.1 ≤ tgt) (h8 : tgt ≤ 8000)
    (hK : ∀ p' s', Same18 s s' → PX s' (goN P T nb 8000 tgt st).1 (goN P T nb 8000 tgt st).2.2 → K p' s') : wp_X7_advance p s (nI tgt) K := by
  have hs := hP.2.2.2.1
  have key : ∀ (F k : Nat) (st : PT) (y0 y1 : RT), k ≤ st.1 → (st.2.1 < tgt → GOK P T nb e st) → GOK P T nb (e + 1) st → st.2.1 ≤ tgt → tgt - st.2.1 ≤ F → Same18 s y1 → PX y1 st.1 st.2.2 → (∀ p' s', Same18 s s' → PX s' (goN P T nb F tgt st).1 (goN P T nb F tgt st).2.2 → K p' s') → lp_X7_advance_7 (nI tgt) K (F + 1) (nI k) y0 y1 := by
    intro F
    induction F with
    | zero =>
      intro k st y0 y1 a0 a1 a2 a3 a4 a5 a6 a7
      have hn := GOK_n hB a2 (by omega)
      refine ⟨fun _ => a7 y0 y1 a5 a6, fun _ => n_endTime a6 (by omega) a2.2.2.1 ⟨fun _ => a7 y0 y1 a5 a6, fun z => absurd (nI_le (show tgt ≤ st.2.1 by omega) (by omega)) z⟩⟩
    | succ F ih =>
      intro k st y0 y1 a0 a1 a2 a3 a4 a5 a6 a7
      have hn := GOK_n hB a2 (by omega)
      have h8t := a2.2.2.2.1
      unfold goN at a7
      refine ⟨fun z => ?_, fun _ => n_endTime a6 (by omega) a2.2.2.1 ⟨fun z => ?_, fun z => ?_⟩⟩
      · have := (nI_leI (a := 960) (by decide) (by omega)).mp z
        omega
      · have q := (nI_leI (by omega) (by omega)).mp z
        rw [if_pos q] at a7
        exact a7 y0 y1 a5 a6
      · have q : st.2.1 < tgt := by
          rcases Nat.lt_or_ge st.2.1 tgt with w | w
          · exact w
          · exact absurd (nI_le w (by omega)) z
        rw [if_neg (by omega)] at a7
        refine n_endTime a6 (by omega) a2.2.2.1 (n_next (BX_18 hBX a5) hB.1 hB.2.2.2 (by omega) ?_)
        have hx := nextN_spec (T := T) (t := st.2.1) (nb := nb) nb 0 (by omega) (fun i hi => by omega)
        have hx2 : nextN T st.2.1 nb 0 ≤ 8000 ∧ st.2.1 < nextN T st.2.1 nb 0 := by
          rcases hx with ⟨e1, _⟩ | ⟨i, b1, b2, b3⟩
          · omega
          · have := hB.2.2.2 i b1; omega
        clear hx
        intro x6 h6
        have e6 : x6 = nI (min tgt (nextN T st.2.1 nb 0)) := by
          rw [h6]
          by_cases w : nextN T st.2.1 nb 0 < tgt
          · rw [if_pos ((nI_ltI (by omega) (by omega)).mpr w), Nat.min_eq_right (by omega)]
          · rw [if_neg (fun y => w ((nI_ltI (by omega) (by omega)).mp y)), Nat.min_eq_left (by omega)]
        subst e6
        refine n_pick (by decide) ?_
        rw [show (0 : Int32) = nI 0 from rfl, pk_n (by decide) (by decide), a5.1 12 (by decide), hS.2.2.2.2.1, pk_sub (by omega)]
        have eh : (if nI (min tgt (nextN T st.2.1 nb 0) - st.2.1) < nI (bS P) then nI (min tgt (nextN T st.2.1 nb 0) - st.2.1) else nI (bS P)) = nI (hN P T nb st.2.1 tgt) := by
          unfold hN
          by_cases w : min tgt (nextN T st.2.1 nb 0) - st.2.1 < bS P
          · rw [if_pos ((nI_ltI (by omega) (by omega)).mpr w)]; congr 1; omega
          · rw [if_neg (fun y => w ((nI_ltI (by omega) (by omega)).mp y))]; congr 1; omega
        rw [eh]
        obtain ⟨q1, q2, q3, -⟩ := hN_ok (nb := nb) hP hB q h8
        obtain ⟨b1, b2⟩ := GOK_step hP hB he (a1 q) q h8
        refine n_takeStep hP (SXp_18 hS a5) a6 a2.1 a2.2.1 (by omega) a2.2.2.1 q1 q2 (by omega) (fun p' s' hs' hX' x10 h10 => ?_)
        have e10 : x10 = nI (k + 1) := h10.trans (nI_1 k)
        subst e10
        refine ih (k + 1) (st.1 + 1, st.2.1 + hN P T nb st.2.1 tgt, stepG P st.1 st.2.1 st.2.2 (hN P T nb st.2.1 tgt)) p' s' (by show k + 1 ≤ st.1 + 1; omega) b2 b1 q3 ?_ (Same18_t a5 hs') hX' a7
        show tgt - (st.2.1 + hN P T nb st.2.1 tgt) ≤ F
        omega
  exact ⟨8001, key 8000 0 st p s (by omega) (fun _ => hG) (GOK_mono hG (by omega)) h1 (by omega) (Same18_r s) hX hK⟩
/-! the reference -/
