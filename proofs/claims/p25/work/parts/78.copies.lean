/-! states: their ghosts, and copies -/
abbrev GH : Type := PB × (Nat × (Nat → Nat) × (Nat → Nat) × (Nat → Nat)) × (Nat × (Nat → Nat))
def qP (G : GH) : PB := G.1
def qn (G : GH) : Nat := G.2.1.1
def qT (G : GH) : Nat → Nat := G.2.1.2.1
def qO (G : GH) : Nat → Nat := G.2.1.2.2.1
def qD (G : GH) : Nat → Nat := G.2.1.2.2.2
def qe (G : GH) : Nat := G.2.2.1
def qE (G : GH) : Nat → Nat := G.2.2.2
noncomputable def pth (G : GH) : PT := allN (qP G) (qT G) (qn G) (qE G) (qe G)
def PrG (j : Nat) (G : GH) : Prop := POKp (qP G) ∧ BrkOK (qP G) (qn G) (qT G) (qO G) (qD G) ∧ qe G ≤ j ∧ EnOK (qP G) (qT G) (qn G) (qe G) (qE G)
def SxG (G : GH) (s : RT) : Prop := SXp s (qP G) ∧ BX s (qn G) (qT G) (qO G) (qD G) ∧ PX s (pth G).1 (pth G).2.2
theorem PrG_mono {j j' : Nat} {G : GH} (h : PrG j G) (hj : j ≤ j') : PrG j' G := ⟨h.1, h.2.1, by have := h.2.2.1; omega, h.2.2.2⟩
theorem pth_ok {j : Nat} {G : GH} (h : PrG j G) : GOK (qP G) (qT G) (qn G) (qe G) (pth G) := allN_ok h.1 (brk_ok h.1 h.2.1).1 h.2.2.2 _ (Nat.le_refl _)
theorem pth_n {j : Nat} {G : GH} (h : PrG j G) : (pth G).1 < 952 := GOK_n (brk_ok h.1 h.2.1).1 (pth_ok h) h.2.2.2.1
theorem SxG_Z0 {j : Nat} {G : GH} {s : RT} (h : PrG j G) (hs : SxG G s) : Z0 s := Z0_of h.1 h.2.1 hs.2.1 hs.2.2 (pth_ok h).1
theorem CodeX_congr {f f' : Nat → Int32} : ∀ {c : List (Nat × Nat)} {b : Nat}, (∀ j, b ≤ j → j < b + c.length → f' j = f j) → CodeX f b c → CodeX f' b c := by
  intro c
  induction c with
  | nil => intro b _ _; trivial
  | cons e r ih =>
    intro b h k
    simp only [List.length_cons] at h
    exact ⟨by rw [h b (by omega) (by omega)]; exact k.1, ih (fun j h1 h2 => h j (by omega) (by omega)) k.2⟩
def AgA (k n : Nat) (t s : RT) : Prop := ∀ j, j < n → s.1 k j = t.1 k j
def CPr (t s s' : RT) : Prop := AgA 2 240 t s' ∧ AgA 3 3 t s' ∧ AgA 4 3 t s' ∧ AgA 6 3 t s' ∧ AgA 7 3 t s' ∧ AgA 9 3 t s' ∧ AgA 10 18 t s' ∧ AgA 11 18 t s' ∧ AgA 12 3 t s' ∧ (∀ k, 13 ≤ k → s'.1 k = s.1 k) ∧ s'.2 = s.2
theorem SXp_cp {t s : RT} {P : PB} (hP : POKp P) (h : SXp t P) (a2 : AgA 2 240 t s) (a3 : AgA 3 3 t s) (a4 : AgA 4 3 t s) (a6 : AgA 6 3 t s) (a7 : AgA 7 3 t s) (a9 : AgA 9 3 t s) (a10 : AgA 10 18 t s) (a11 : AgA 11 18 t s) (a12 : AgA 12 3 t s) : SXp s P := by
  obtain ⟨h1, h2, h3, h4, h5, h6, h7⟩ := h
  refine ⟨fun v hv => ⟨?_, by rw [a4 v hv]; exact (h1 v hv).2⟩, fun d hd => by rw [a6 d hd]; exact h2 d hd, fun d hd => by rw [a7 d hd]; exact h3 d hd, fun v hv => ?_, by rw [a12 0 (by decide)]; exact h5, by rw [a12 1 (by decide)]; exact h6, by rw [a12 2 (by decide)]; exact h7⟩
  · have hl := tx_len (hP.1 v hv)
    rw [a3 v hv]
    rcases (h1 v hv).1 with ⟨q1, q2⟩ | q
    · exact Or.inl ⟨q1, CodeX_congr (fun j j1 j2 => a2 j (by have : (cd P v).length ≤ 80 := hl; omega)) q2⟩
    · exact Or.inr q
  · have h6' := (hP.2.2.1 v hv).1
    rw [a9 v hv]
    refine ⟨(h4 v hv).1, fun k hk => ?_⟩
    rw [a10 _ (by omega), a11 _ (by omega)]
    exact (h4 v hv).2 k hk
theorem n_copyProblem {t s : RT} {K : RT → Prop} (h : ∀ s', CPr t s s' → K s') : wp_X6_copyProblem t s K := by
  unfold wp_X6_copyProblem wp_X5_copyFrom wp_X3_copyFrom wp_X1_copyFrom
  refine n_copyRow (y := 240) (z := 240) (n := 240) (by decide) (by decide) (by decide) (by decide) ?_
  intro s1 e1
  refine n_copyRow (y := 3) (z := 3) (n := 3) (by decide) (by decide) (by decide) (by decide) ?_
  intro s2 e2
  refine n_copyRow (y := 3) (z := 3) (n := 3) (by decide) (by decide) (by decide) (by decide) ?_
  intro s3 e3
  refine n_copyRow (y := 3) (z := 3) (n := 3) (by decide) (by decide) (by decide) (by decide) ?_
  intro s4 e4
  refine n_copyRow (y := 3) (z := 3) (n := 3) (by decide) (by decide) (by decide) (by decide) ?_
  intro s5 e5
  refine n_copyRow (y := 3) (z := 3) (n := 3) (by decide) (by decide) (by decide) (by decide) ?_
  intro s6 e6
  refine n_copyRow (y := 18) (z := 18) (n := 18) (by decide) (by decide) (by decide) (by decide) ?_
  intro s7 e7
  refine n_copyRow (y := 18) (z := 18) (n := 18) (by decide) (by decide) (by decide) (by decide) ?_
  intro s8 e8
  refine n_copyRow (y := 3) (z := 3) (n := 3) (by decide) (by decide) (by decide) (by decide) ?_
  intro s9 e9
  subst e1; subst e2; subst e3; subst e4; subst e5; subst e6; subst e7; subst e8; subst e9
  refine h _ ⟨fun j hj => if_pos hj, fun j hj => if_pos hj, fun j hj => if_pos hj, fun j hj => if_pos hj, fun j hj => if_pos hj, fun j hj => if_pos hj, fun j hj => if_pos hj, fun j hj => if_pos hj, fun j hj => if_pos hj, fun k hk => ?_, rfl⟩
  show (if k = 12 then _ else if k = 11 then _ else if k = 10 then _ else if k = 9 then _ else if k = 7 then _ else if k = 6 then _ else if k = 4 then _ else if k = 3 then _ else if k = 2 then _ else s.1 k) = s.1 k
  rw [if_neg (by omega), if_neg (by omega), if_neg (by omega), if_neg (by omega), if_neg (by omega), if_neg (by omega), if_neg (by omega), if_neg (by omega), if_neg (by omega)]
theorem n_copyFrom {j : Nat} {G : GH} {t s : RT} {K : RT → Prop} (hG : PrG j G) (ht : SxG G t) (h : ∀ s', SxG G s' → K s') : wp_X6_copyFrom t s K := by
  have hn := pth_n hG
  have h40 := (brk_ok hG.1 hG.2.1).1.1
  unfold wp_X6_copyFrom wp_X0_copyFrom wp_X4_copyFrom
  refine n_copyProblem (fun s1 h1 => ?_)
  obtain ⟨a2, a3, a4, a6, a7, a9, a10, a11, a12, ao, as⟩ := h1
  intro s2 e2
  refine n_copyRow (y := 40) (z := 40) (n := 40) (by decide) (by decide) (by decide) (by decide) ?_
  intro s3 e3
  refine n_copyRow (y := 40) (z := 40) (n := 40) (by decide) (by decide) (by decide) (by decide) ?_
  intro s4 e4
  refine n_copyRow (y := 40) (z := 40) (n := 40) (by decide) (by decide) (by decide) (by decide) ?_
  intro s5 e5
  intro s6 e6
  have e61 : s6.2.2 1 = nI (pth G).1 := by rw [e6]; exact ht.2.2.1
  rw [e61, ix8n]
  refine n_copyRow (y := 7688) (z := 7688) (n := ((pth G).1 + 1) * 8) (by omega) (by omega) (by decide) (by decide) ?_
  intro s7 e7
  have f2 : ∀ k, k < 13 → s7.1 k = s1.1 k := by
    intro k hk
    rw [e7, e6, e5, e4, e3, e2]
    show (if k = 18 then _ else if k = 16 then _ else if k = 15 then _ else if k = 14 then _ else s1.1 k) = s1.1 k
    rw [if_neg (by omega), if_neg (by omega), if_neg (by omega), if_neg (by omega)]
  have f14 : ∀ i, i < 40 → s7.1 14 i = t.1 14 i ∧ s7.1 15 i = t.1 15 i ∧ s7.1 16 i = t.1 16 i := by
    intro i hi
    rw [e7, e6, e5, e4, e3]
    exact ⟨if_pos hi, if_pos hi, if_pos hi⟩
  have f18 : ∀ i, i < ((pth G).1 + 1) * 8 → s7.1 18 i = t.1 18 i := by
    intro i hi
    rw [e7]
    exact if_pos hi
  have g0 : s7.2.2 0 = t.2.2 0 := by rw [e7, e6, e5, e4, e3, e2]; rfl
  have g1 : s7.2.2 1 = t.2.2 1 := by rw [e7, e6]; rfl
  have ag : ∀ k n, k < 13 → AgA k n t s1 → AgA k n t s7 := fun k n hk h j hj => by rw [f2 k hk]; exact h j hj
  refine h s7 ⟨SXp_cp hG.1 ht.1 (ag 2 _ (by decide) a2) (ag 3 _ (by decide) a3) (ag 4 _ (by decide) a4) (ag 6 _ (by decide) a6) (ag 7 _ (by decide) a7) (ag 9 _ (by decide) a9) (ag 10 _ (by decide) a10) (ag 11 _ (by decide) a11) (ag 12 _ (by decide) a12), ⟨by rw [g0]; exact ht.2.1.1, fun i hi => ?_⟩, ⟨by rw [g1]; exact ht.2.2.1, fun i hi => ?_⟩⟩
  · obtain ⟨p1, p2, p3⟩ := f14 i (by omega)
    rw [p1, p2, p3]
    exact ht.2.1.2 i hi
  · rw [f18 i (by omega)]
    exact ht.2.2.2 i hi
