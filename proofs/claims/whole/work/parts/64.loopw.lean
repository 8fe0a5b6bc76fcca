/-! the loop of the reference over a right side: what each letter does -/
def bodyW (a0 a1 : Int32) (K : Int64 → RT → Prop) (k15 : Int32 → Int32 → RT → Prop) (x_3 x_4 r5 x6 : Int32) (y_0 : RT) : Prop := wp_X10_isDigit r5 (fun (r7 : Int32) => ((r7 = (0 : Int32) → ((¬ r5 = (116 : Int32) → wp_X10_isName r5 (fun (r10 : Int32) => ((r10 = (0 : Int32) → ((¬ r5 = (41 : Int32) → ((¬ r5 = (109 : Int32) → jp_X10_worksOut_283 a0 a1 K k15 x_3 x_4 r5 (0 : Int32) (x_4 + (1 : Int32)) y_0) ∧ (r5 = (109 : Int32) → jp_X10_worksOut_283 a0 a1 K k15 x_3 x_4 r5 (0 : Int32) (x_4 + (4 : Int32)) y_0))) ∧ (r5 = (41 : Int32) → wp_X10_shuts y_0 (fun (s18 : RT) => jp_X10_worksOut_311 a0 a1 K k15 x6 (1 : Int32) s18)))) ∧ (¬ r10 = (0 : Int32) → wp_X10_rightLetter y_0 a0 (x_4 + (1 : Int32)) (fun (r19 : Int32) => ((¬ r19 = (39 : Int32) → jp_X10_worksOut_124 a0 a1 K k15 x_4 r5 (1 : Int32) (0 : Int32) y_0) ∧ (r19 = (39 : Int32) → jp_X10_worksOut_124 a0 a1 K k15 x_4 r5 (1 : Int32) (1 : Int32) y_0))))))) ∧ (r5 = (116 : Int32) → wp_X10_puts y_0 (a1.toInt64) (fun (s32 : RT) => jp_X10_worksOut_311 a0 a1 K k15 x6 (1 : Int32) s32)))) ∧ (¬ r7 = (0 : Int32) → wp_X10_numberAt y_0 a0 x_4 (fun (r33 : Int64) => wp_X10_puts y_0 r33 (fun (s34 : RT) => wp_X10_behindNumber s34 a0 x_4 (fun (r35 : Int32) => jp_X10_worksOut_311 a0 a1 K k15 r35 (1 : Int32) s34))))))
theorem n_shutP {y : RT} {vs vs0 : List Int} {ss ss0 : List Nat} {x : Int} {g : Nat} {K : RT → Prop} (hnt : ∀ r, ss0 ≠ 126 :: r) (hW : WS y vs ss) (hc : carry 1 ss vs = (x :: vs0, 40 :: (List.replicate g 126 ++ ss0))) (hv : vs.length ≤ 80) (hs : ss.length ≤ 160) (hv0 : vs0.length < 80) (hs0 : g + ss0.length < 160) (h : ∀ y', SameV y y' → WS y' (ngI g x :: vs0) ss0 → K y') : wp_X10_shuts y K := by
  refine ⟨ss.length + 1, n_carriesAll (Or.inl rfl) (by show rk 40 < 1; decide) ss vs y hW hc hv hs (fun y1 hy1 hW1 => ?_)⟩
  obtain ⟨w1, w2, w3, w4, w5, w6⟩ := hW1
  have hl : (List.replicate g 126 ++ ss0).length = g + ss0.length := by rw [List.length_append, List.length_replicate]
  have e : y1.2.2 30 - 1 = nI (g + ss0.length) := by
    rw [w2, List.length_cons, hl, p1 (by omega)]; rfl
  intro s2 e2
  rw [e] at e2
  subst e2
  have e3 : (rS y1 30 (nI (g + ss0.length))).2.2 30 = nI (g + ss0.length) := rfl
  have e4 : (rS y1 30 (nI (g + ss0.length))).1 21 (g + ss0.length) = nI 40 := by
    have := w4.1
    rw [hl] at this
    exact this
  rw [e3, nI_clamp (by omega), e4]
  refine ⟨vp_in_nI (by omega) (by decide), fun _ => ⟨g + 1, ?_⟩, fun q => absurd q (by decide)⟩
  refine n_negates hnt g x _ ⟨w1, ?_, w3, w4.2, w5, fun c hc => w6 c (List.mem_cons_of_mem _ hc)⟩ hv0 (by omega) (fun y' hy' hW' => h y' (SameV_t hy1 (SameV_t (SameV_30 _ _) hy')) hW')
  rw [hl]; rfl
theorem joinZ7 (a b : Int) : joinZ 7 a b = if b < a then b else a := by unfold joinZ; rw [if_neg (by decide), if_neg (by decide), if_neg (by decide), if_neg (by decide), if_pos rfl]
theorem joinZ8 (a b : Int) : joinZ 8 a b = if b < a then a else b := by unfold joinZ; rw [if_neg (by decide), if_neg (by decide), if_neg (by decide), if_neg (by decide), if_neg (by decide)]
theorem n_shutM {y : RT} {vs vs0 : List Int} {ss ss0 : List Nat} {a b : Int} {c g : Nat} {K : RT → Prop} (hnt : ∀ r, ss0 ≠ 126 :: r) (hW : WS y vs ss) (hcc : c = 105 ∨ c = 97) (hc : carry 1 ss vs = (b :: a :: vs0, 44 :: c :: (List.replicate g 126 ++ ss0))) (hv : vs.length ≤ 80) (hs : ss.length ≤ 160) (hv0 : vs0.length + 2 ≤ 80) (hs0 : g + ss0.length + 2 ≤ 160) (h : ∀ y', SameV y y' → WS y' (ngI g (joinZ (if c = 105 then 7 else 8) a b) :: vs0) ss0 → K y') : wp_X10_shuts y K := by
  refine ⟨ss.length + 1, n_carriesAll (Or.inl rfl) (by show rk 44 < 1; decide) ss vs y hW hc hv hs (fun y1 hy1 hW1 => ?_)⟩
  obtain ⟨w1, w2, w3, w4, w5, w6⟩ := hW1
  have hl : (List.replicate g 126 ++ ss0).length = g + ss0.length := by rw [List.length_append, List.length_replicate]
  generalize hn : g + ss0.length = n at hl hs0
  have e : y1.2.2 30 - 1 = nI (n + 1) := by
    rw [w2, List.length_cons, List.length_cons, hl, p1 (by omega)]; rfl
  have e' : nI (n + 1) - 1 = nI n := by rw [p1 (by omega)]; rfl
  intro s2 e2
  rw [e] at e2
  subst e2
  have e3 : (rS y1 30 (nI (n + 1))).2.2 30 = nI (n + 1) := rfl
  have e4 : (rS y1 30 (nI (n + 1))).1 21 (n + 1) = nI 44 := by
    have := w4.1
    rw [List.length_cons, hl] at this
    exact this
  rw [e3, nI_clamp (by omega), e4]
  refine ⟨vp_in_nI (by omega) (by decide), fun q => absurd rfl q, fun _ s5 h5 s6 h6 => ?_⟩
  rw [e'] at h5
  subst h5
  have e29 : (rS (rS y1 30 (nI (n + 1))) 30 (nI n)).2.2 29 - 1 = nI (vs0.length + 1) := by
    show y1.2.2 29 - 1 = _
    rw [w1, List.length_cons, List.length_cons, p1 (by omega)]; rfl
  rw [e29] at h6
  have hS : SameV y1 s6 := by rw [h6]; exact SameV_t (SameV_t (SameV_30 _ _) (SameV_30 _ _)) (SameV_29 _ _)
  have s29 : s6.2.2 29 = nI (vs0.length + 1) := by rw [h6]; rfl
  have s30 : s6.2.2 30 = nI n := by rw [h6]; rfl
  have sL : s6.2.1 = y1.2.1 := by rw [h6]; rfl
  have sI : s6.1 = y1.1 := by rw [h6]; rfl
  clear h6
  have e6 : nI (vs0.length + 1) - 1 = nI vs0.length := by rw [p1 (by omega)]; rfl
  rw [s29, nI_clamp (by omega)]
  refine ⟨vp_in_nI (by omega) (by decide), fun x7 h7 => ?_⟩
  have e7 : x7 = lz b := h7.trans (by rw [sL]; exact w3.1)
  subst e7
  rw [e6, nI_clamp (by omega)]
  refine ⟨vp_in_nI (by omega) (by decide), fun x8 h8 => ?_⟩
  have e8 : x8 = lz a := h8.trans (by rw [sL]; exact w3.2.1)
  subst e8
  have ec : s6.1 21 n = nI c := by
    have := w4.2.1
    rw [hl] at this
    rw [sI]; exact this
  rw [s30, nI_clamp (by omega), ec]
  have hb2 : -2000000000 ≤ b ∧ b ≤ 2000000000 := w5.1
  have ha2 : -2000000000 ≤ a ∧ a ≤ 2000000000 := w5.2.1
  have tb : (lz b).toInt = b := lz_toInt ⟨by omega, by omega⟩
  have ta : (lz a).toInt = a := lz_toInt ⟨by omega, by omega⟩
  have fin : ∀ z : Int, z = joinZ (if c = 105 then 7 else 8) a b → ∀ s12 : RT, s12 = rL s6 20 (vp_updL (s6.2.1 20) vs0.length (lz z)) → wp_X10_negates s12 (fun s13 => K s13) := by
    intro z hz s12 h12
    have hz2 : -2000000000 ≤ z ∧ z ≤ 2000000000 := by rw [hz]; exact joinZ_in ha2 hb2
    refine ⟨g + 1, n_negates hnt g z _ ⟨?_, ?_, ⟨?_, ?_⟩, ?_, ⟨hz2, w5.2.2⟩, fun d hd => w6 d (List.mem_cons_of_mem _ (List.mem_cons_of_mem _ hd))⟩ (by omega) (by omega) (fun y' hy' hW' => h y' (SameV_t hy1 (SameV_t hS (SameV_t (by rw [h12]; exact SameV_L _ _) hy'))) (by rw [← hz]; exact hW'))⟩
    · rw [h12]; exact s29
    · rw [h12, hl]; exact s30
    · rw [h12]; exact pk_uLs
    · rw [h12]
      refine StL_upd (f := s6.2.1 20) ?_ (Nat.le_refl _)
      rw [sL]; exact w3.2.2
    · rw [h12]
      show SgX (s6.1 21) _
      rw [sI]; exact w4.2.2
  have j0 : b = joinZ (if c = 105 then 7 else 8) a b → jp_X10_shuts_110 K (lz b) (lz a) 0 s6 := by
    intro q
    refine ⟨fun _ => ?_, fun z => absurd rfl z⟩
    rw [s29, e6, nI_clamp (by omega)]
    exact ⟨vp_in_nI (by omega) (by decide), fin b q⟩
  have j1 : a = joinZ (if c = 105 then 7 else 8) a b → jp_X10_shuts_110 K (lz b) (lz a) 1 s6 := by
    intro q
    refine ⟨fun z => absurd z (by decide), fun _ => ?_⟩
    rw [s29, e6, nI_clamp (by omega)]
    exact ⟨vp_in_nI (by omega) (by decide), fin a q⟩
  refine ⟨vp_in_nI (by omega) (by decide), fun q => ⟨fun w => j0 ?_, fun w => j1 ?_⟩, fun q => ⟨fun w => j0 ?_, fun w => j1 ?_⟩⟩
  · have hc5 : c ≠ 105 := fun z => q (by rw [z]; rfl)
    rw [lgc_le, ta, tb] at w
    rw [if_neg hc5, joinZ8, if_neg (by omega)]
  · have hc5 : c ≠ 105 := fun z => q (by rw [z]; rfl)
    rw [lgc_le, ta, tb] at w
    rw [if_neg hc5, joinZ8, if_pos (by omega)]
  · have hc5 : c = 105 := (nI_eq (by omega) (by decide)).mp q
    rw [lgc_ge, ta, tb] at w
    rw [if_pos hc5, joinZ7]
    split <;> omega
  · have hc5 : c = 105 := (nI_eq (by omega) (by decide)).mp q
    rw [lgc_ge, ta, tb] at w
    rw [if_pos hc5, joinZ7, if_neg (by omega)]
/-- the place k, its stacks; w: a unit is wanted -/
def RunW (K : Int64 → RT → Prop) (m : RT) (v len : Nat) (t : Int32) (vs : List Int) (ss : List Nat) (w : Int32) (k : Nat) : Prop := vs.length ≤ k → ss.length ≤ k → ∀ (y : RT) (f : Nat), SameV m y → WS y vs ss → len + 1 - k ≤ f → 1 ≤ f → lp_X10_worksOut_15 (nI v) t K f w (nI k) y
theorem w_in {K : Int64 → RT → Prop} {m : RT} {v len : Nat} {L : Nat → Nat} {t : Int32} {vs : List Int} {ss : List Nat} {w : Int32} {k : Nat} (hL : LOK L len) (hT : TX (m.1 1) v L len) (hv : v < 3) (hk : k < len)
    (h : vs.length ≤ k → ss.length ≤ k → ∀ (y : RT) (k15 : Int32 → Int32 → RT → Prop), SameV m y → WS y vs ss → (∀ (vs' : List Int) (ss' : List Nat) (w' : Int32) (k' : Nat) (y' : RT), RunW K m v len t vs' ss' w' k' → vs'.length ≤ k' → ss'.length ≤ k' → SameV y y' → WS y' vs' ss' → k < k' → k15 w' (nI k') y') → bodyW (nI v) t K k15 w (nI k) (nI (L k)) (nI (k + 1)) y) : RunW K m v len t vs ss w k := by
  intro l1 l2 y f hy hW hf hf1
  obtain ⟨g, rfl⟩ : ∃ g, f = g + 1 := ⟨f - 1, by omega⟩
  have h80 := hL.1
  have e1 : y.1 1 = m.1 1 := hy.1 1 (by decide)
  have hT' : TX (y.1 1) v L len := by rw [e1]; exact hT
  have hb : lp_X10_worksOut_15 (nI v) t K (g + 1) w (nI k) y = (vp_in ((48 : Int32) + ((81 : Int32) * nI v)) 812 ∧ (((y.1 1 ((48 : Int32) + ((81 : Int32) * nI v)).toNatClampNeg) ≤ nI k → wp_X10_carriesAll y (1 : Int32) (fun (s4 : RT) => vp_in (0 : Int32) 80 ∧ K (s4.2.1 20 (0 : Int32).toNatClampNeg) s4)) ∧ (¬ (y.1 1 ((48 : Int32) + ((81 : Int32) * nI v)).toNatClampNeg) ≤ nI k → wp_X10_rightLetter y (nI v) (nI k) (fun (r5 : Int32) => ∀ x6 : Int32, x6 = nI k + (1 : Int32) → bodyW (nI v) t K (fun v0 v1 v2 => lp_X10_worksOut_15 (nI v) t K g v0 v1 v2) w (nI k) r5 x6 y)))) := rfl
  rw [hb, ixR0, nI_clamp (by omega), hT'.1]
  refine ⟨vp_in_nI (by omega) (by decide), fun q => ?_, fun _ => n_rightLetter hL hT' hv (by omega) (fun x6 h6 => ?_)⟩
  · have := (nI_leI (by omega) (by omega)).mp q
    omega
  · have e6 : x6 = nI (k + 1) := h6.trans (nI_1 k)
    subst e6
    exact h l1 l2 y _ hy hW (fun vs' ss' w' k' y' hr a b hy' hW' hkk => hr a b y' g (SameV_t hy hy') hW' (by omega) (by omega))
theorem w_end {K : Int64 → RT → Prop} {m : RT} {v len : Nat} {L : Nat → Nat} {t : Int32} {vs : List Int} {ss : List Nat} {w : Int32} {x : Int} (hL : LOK L len) (hT : TX (m.1 1) v L len) (hv : v < 3) (hc : carry 1 ss vs = ([x], [])) (h : ∀ y, SameV m y → K (lz x) y) : RunW K m v len t vs ss w len := by
  intro l1 l2 y f hy hW hf hf1
  obtain ⟨g, rfl⟩ : ∃ g, f = g + 1 := ⟨f - 1, by omega⟩
  have h80 := hL.1
  have e1 : y.1 1 = m.1 1 := hy.1 1 (by decide)
  have hT' : TX (y.1 1) v L len := by rw [e1]; exact hT
  unfold lp_X10_worksOut_15
  rw [ixR0, nI_clamp (by omega), hT'.1]
  refine ⟨vp_in_nI (by omega) (by decide), fun _ => ⟨ss.length + 1, ?_⟩, fun q => absurd (nI_le (Nat.le_refl len) (by omega)) q⟩
  refine n_carriesAll (Or.inl rfl) (by show 0 < 1; decide) ss vs y hW hc (by omega) (by omega) (fun y' hy' hW' => ⟨(vp_in_nI (show 0 < 80 by decide) (by decide) : vp_in (nI 0) 80), ?_⟩)
  have e : y'.2.1 20 (0 : Int32).toNatClampNeg = lz x := hW'.2.2.1.1
  rw [e]
  exact h y' (SameV_t hy hy')
