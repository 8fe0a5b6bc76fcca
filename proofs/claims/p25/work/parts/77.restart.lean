/-! a problem begun anew: break points, the first row; all solved again -/
theorem QB_congr {U U' : Nat → Prop} {c p : Nat → Int} (h : ∀ d, d < 3 → (U d ↔ U' d)) : ∀ l, QB U c p l = QB U' c p l := by
  intro l
  induction l with
  | zero => rfl
  | succ l ih =>
    have e : mkP U c p (QB U c p l) l (fun _ _ => True) = mkP U' c p (QB U' c p l) l (fun _ _ => True) := by
      funext t d
      apply propext
      constructor
      · rintro ⟨b, e, q1, q2, q3, q4, q5, q6⟩
        exact ⟨b, e, by rw [← ih]; exact q1, q2, (h d q2).mp q3, q4, q5, q6⟩
      · rintro ⟨b, e, q1, q2, q3, q4, q5, q6⟩
        exact ⟨b, e, by rw [ih]; exact q1, q2, (h d q2).mpr q3, q4, q5, q6⟩
    show Qm (QB U c p l) l (mkP U c p (QB U c p l) l (fun _ _ => True)) = Qm (QB U' c p l) l (mkP U' c p (QB U' c p l) l (fun _ _ => True))
    rw [e, ih]
def BrkOK (P : PB) (nb : Nat) (T O D : Nat → Nat) : Prop := Rep nb T O D (QB (usP P) (bc P) (bp P) (bO P)) ∧ Srt nb T
theorem QB_0 {U : Nat → Prop} {c p : Nat → Int} : ∀ l, QB U c p l 0 0 0 := by
  intro l
  induction l with
  | zero => exact ⟨rfl, rfl, rfl⟩
  | succ l ih => exact Or.inl ih
theorem brk_ok {P : PB} {nb : Nat} {T O D : Nat → Nat} (hP : POKp P) (h : BrkOK P nb T O D) : BrT T nb ∧ O 0 = 0 ∧ D 0 = 0 ∧ ∀ i, i < nb → (T i = 0 ↔ i = 0) := by
  have h40 := few h.1 hP.2.2.2.2.2 (QB_in (bO P))
  obtain ⟨i, a, b, c, d⟩ := (h.1.2 0 0 0).mp (QB_0 (bO P))
  have i0 : i = 0 := by
    rcases Nat.eq_zero_or_pos i with w | w
    · exact w
    · have := Srt_lt h.2 w a; omega
  subst i0
  refine ⟨⟨h40, a, b, fun j hj => ?_⟩, c, d, fun j hj => ⟨fun w => ?_, fun w => by rw [w]; exact b⟩⟩
  · have := QB_in (bO P) (T j) (O j) (D j) ((h.1.2 _ _ _).mpr ⟨j, hj, rfl, rfl, rfl⟩)
    exact this.2.1
  · rcases Nat.eq_zero_or_pos j with z | z
    · exact z
    · have := Srt_lt h.2 z hj; omega
theorem BX_congr {s : RT} {n : Nat} {T O D T' O' D' : Nat → Nat} (h : BX s n T O D) (e : ∀ i, i < n → T i = T' i ∧ O i = O' i ∧ D i = D' i) : BX s n T' O' D' := ⟨h.1, fun i hi => by obtain ⟨a, b, c⟩ := e i hi; rw [← a, ← b, ← c]; exact h.2 i hi⟩
theorem ex_w (Q : Nat → Prop) : ∃ w, w < 8 ∧ ∀ d, d < 3 → (Ub w d ↔ Q d) := by
  have b : ∀ i, ∃ x, x < 2 ∧ (x = 1 ↔ Q i) := fun i => (Classical.em (Q i)).elim (fun h => ⟨1, by decide, fun _ => h, fun _ => rfl⟩) (fun h => ⟨0, by decide, fun w => absurd w (by decide), fun w => absurd w h⟩)
  obtain ⟨x, hx, x1⟩ := b 0
  obtain ⟨y, hy, y1⟩ := b 1
  obtain ⟨z, hz, z1⟩ := b 2
  refine ⟨x + 2 * y + 4 * z, by omega, fun d hd => ?_⟩
  have : d = 0 ∨ d = 1 ∨ d = 2 := by omega
  unfold Ub
  rcases this with q | q | q
  · subst q
    rw [← x1, show (2 : Nat) ^ 0 = 1 from rfl]
    omega
  · subst q
    rw [← y1, show (2 : Nat) ^ 1 = 2 from rfl]
    omega
  · subst q
    rw [← z1, show (2 : Nat) ^ 2 = 4 from rfl]
    omega
def Z0 (s : RT) : Prop := (s.1 14 0 = nI 0 ∧ s.1 15 0 = nI 0 ∧ s.1 16 0 = nI 0) ∧ s.1 18 0 = 0
def g00 (P : PB) : Nat → Int32 := fun j => if 1 ≤ j ∧ j < 4 then iz (hvZ (bh P (j - 1)) (bT P (j - 1)) (bV P (j - 1)) 0) else 0
theorem g00_v {P : PB} {v : Nat} (hv : v < 3) : g00 P (1 + v) = iz (hvZ (bh P v) (bT P v) (bV P v) 0) := by
  unfold g00
  rw [if_pos (by omega), show 1 + v - 1 = v by omega]
theorem Z0_of {s : RT} {P : PB} {nb n : Nat} {T O D : Nat → Nat} {g : Nat → Int32} (hP : POKp P) (hb : BrkOK P nb T O D) (hB : BX s nb T O D) (hX : PX s n g) (hG : POK n g) : Z0 s := by
  obtain ⟨b1, b2, b3, b4⟩ := brk_ok hP hb
  obtain ⟨c1, c2, c3⟩ := hB.2 0 b1.2.1
  rw [b1.2.2.1] at c1
  rw [b2] at c2
  rw [b3] at c3
  exact ⟨⟨c1, c2, c3⟩, by rw [hX.2 0 (by omega)]; exact hG.1⟩
theorem SXp_3 {s s' : RT} {P : PB} (h : SXp s P) (hs : Same3 s s') : SXp s' P := by
  unfold SXp CDX HX at h ⊢
  rw [hs.1 2 (by decide) (by decide) (by decide), hs.1 3 (by decide) (by decide) (by decide), hs.1 4 (by decide) (by decide) (by decide), hs.1 6 (by decide) (by decide) (by decide), hs.1 7 (by decide) (by decide) (by decide), hs.1 9 (by decide) (by decide) (by decide), hs.1 10 (by decide) (by decide) (by decide), hs.1 11 (by decide) (by decide) (by decide), hs.1 12 (by decide) (by decide) (by decide)]
  exact h
theorem n_restartX {s : RT} {P : PB} {K : RT → Prop} (hP : POKp P) (hS : SXp s P) (hZ : Z0 s) (h : ∀ s' nb T O D, SXp s' P → BX s' nb T O D → BrkOK P nb T O D → PX s' 0 (g00 P) → (∀ v, v < 3 → s'.1 4 v = s.1 4 v) → K s') : wp_X6_restart s K := by
  refine n_allOps hP hS (n_usedX hP (fun w hw hu => n_pick (by decide) ?_))
  rw [show (2 : Int32) = nI 2 from rfl, pk_n (by decide) (by decide), hS.2.2.2.2.2.2]
  refine n_find hw hP.2.1 hS.2.1 hS.2.2.1 hP.2.2.2.2.2 hZ.1 (fun s4 nb T O D h3 hB hs hR => ?_)
  rw [QB_congr hu] at hR
  intro s5 h5
  have key : ∀ (f v : Nat) (y : RT), f + v = 4 → v ≤ 3 → Same18 s4 y → y.2.2 1 = nI 0 → y.1 18 0 = 0 → (∀ u, u < v → y.1 18 (1 + u) = g00 P (1 + u)) → lp_X4_restart_12 K f (nI v) y := by
    intro f
    induction f with
    | zero => intro v y a b; omega
    | succ f ih =>
      intro v y a b c1 c2 c3 c4
      refine ⟨fun z => ?_, fun z => ?_⟩
      · have := (nI_leI (a := 3) (by decide) (by omega)).mp z
        refine h y nb T O D (SXp_18 (SXp_3 hS h3) c1) (BX_18 hB c1) ⟨hR, hs⟩ ⟨c2, fun j hj => ?_⟩ (fun v hv => ?_)
        · by_cases e : j = 0
          · subst e; rw [c3]; rfl
          · have := c4 (j - 1) (by omega)
            rw [show 1 + (j - 1) = j by omega] at this
            exact this
        · rw [c1.1 4 (by decide), h3.1 4 (by decide) (by decide) (by decide)]
      · have hv : v < 3 := by
          rcases Nat.lt_or_ge v 3 with w | w
          · exact w
          · exact absurd (nI_le w (by omega)) z
        have hS' := SXp_18 (SXp_3 hS h3) c1
        refine n_valueAtX hS'.2.2.2.1 hP.2.2.1 hv ?_
        rw [show (1 : Int32) + nI v = nI (1 + v) by rw [show (1 : Int32) = nI 1 from rfl, nI_add]]
        refine n_put (by decide) ?_
        rw [pt_n (by decide) (by omega)]
        intro s5' h5' x6 h6
        have e6 : x6 = nI (v + 1) := h6.trans (nI_1 v)
        subst e6
        have f18 : s5'.1 18 = upd (y.1 18) (1 + v) (iz (hvZ (bh P v) (bT P v) (bV P v) 0)) := by rw [h5']; rfl
        refine ih (v + 1) s5' (by omega) (by omega) (by rw [h5']; exact Same18_t c1 (Same18_s _ _)) (by rw [h5']; exact c2) ?_ (fun u hu => ?_)
        · rw [f18, pk_un (by omega)]; exact c3
        · rw [f18]
          by_cases e : u = v
          · subst e; rw [pk_us, g00_v hv]
          · rw [pk_un (by omega)]; exact c4 u (by omega)
  refine ⟨4, key 4 0 s5 rfl (by decide) (by rw [h5]; exact ⟨fun _ _ => rfl, rfl, fun _ hj => if_neg hj⟩) (by rw [h5]; rfl) ?_ (fun u hu => by omega)⟩
  rw [h5]
  show s4.1 18 0 = 0
  rw [h3.1 18 (by decide) (by decide) (by decide)]
  exact hZ.2
/-! all ends again -/
noncomputable def allN (P : PB) (T : Nat → Nat) (nb : Nat) (E : Nat → Nat) : Nat → PT
  | 0 => (0, 0, g00 P)
  | k + 1 => goN P T nb 8000 (E k) (allN P T nb E k)
def EnOK (P : PB) (T : Nat → Nat) (nb ne : Nat) (E : Nat → Nat) : Prop := ne ≤ 512 ∧ ∀ k, k < ne → (allN P T nb E k).2.1 ≤ E k ∧ E k ≤ 8000
theorem GOK_0 {P : PB} {T : Nat → Nat} {nb : Nat} (hP : POKp P) : GOK P T nb 0 (0, 0, g00 P) := by
  refine ⟨⟨rfl, by show 0 ≤ 960; decide, fun s hs => ?_, fun s hs => ?_⟩, fun v hv => g00_v hv, rfl, by show 0 ≤ 8000; decide, ?_⟩
  · have e : s = 0 := by
      have : s ≤ 0 := hs
      omega
    subst e
    refine ⟨by show (0 : Int) ≤ 8000; decide, fun v hv => ?_⟩
    show -1000000000 ≤ (g00 P (0 * 8 + 1 + v)).toInt ∧ (g00 P (0 * 8 + 1 + v)).toInt ≤ 1000000000
    rw [show 0 * 8 + 1 + v = 1 + v by omega, g00_v hv, hvZ_0 hP.2.2.1 hv]
    have := hvZ_in (t := 0) hP.2.2.1 hv
    omega
  · have : s < 0 := hs
    omega
  · show 0 * 20 ≤ 0 + 20 * (cbN T 0 nb + 0)
    omega
theorem allN_ok {P : PB} {T : Nat → Nat} {nb ne : Nat} {E : Nat → Nat} (hP : POKp P) (hB : BrT T nb) (hE : EnOK P T nb ne E) : ∀ k, k ≤ ne → GOK P T nb k (allN P T nb E k) := by
  intro k
  induction k with
  | zero => intro _; exact GOK_0 hP
  | succ k ih =>
    intro hk
    have h := ih (by omega)
    have he := hE.2 k (by omega)
    have hn := hE.1
    exact (goN_ok hP hB (by omega) he.2 8000 _ (fun _ => h) (GOK_mono h (by omega)) he.1 (by omega)).1
theorem allN_end {P : PB} {T : Nat → Nat} {nb ne : Nat} {E : Nat → Nat} (hP : POKp P) (hB : BrT T nb) (hE : EnOK P T nb ne E) {k : Nat} (hk : k < ne) : (allN P T nb E (k + 1)).2.1 = E k := by
  have h := allN_ok hP hB hE k (by omega)
  have he := hE.2 k hk
  have hn := hE.1
  exact (goN_ok hP hB (by omega) he.2 8000 _ (fun _ => h) (GOK_mono h (by omega)) he.1 (by omega)).2
