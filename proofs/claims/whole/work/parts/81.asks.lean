/-! questions: lag, breakAt, value, slope, step, count -/
theorem PT_lag_ok : PT_lag Inv := by
  intro j t c r p ct kp kr sl sr m a0 a1 hj h
  have h' := Inv_s h
  obtain ⟨_, ⟨G, hG⟩, _⟩ := h
  refine n_isDelay ⟨fun z => n_isThree ⟨fun _ => ⟨rfl, h'⟩, fun w => absurd z w⟩, fun z => n_isWithin ⟨fun y => ?_, fun y => n_isThree ⟨fun w => absurd w z, fun _ => n_within ⟨fun w => absurd y w, fun _ => ⟨rfl, h'⟩⟩⟩⟩⟩
  obtain ⟨d, hd, rfl⟩ := wi02 (b2_1.mp z)
  have hb := wi_eq.mp (b2_1.mp y)
  have e0 : (0 : Int32).toInt = 0 := by decide
  have e8 : (8000 : Int32).toInt = 8000 := by decide
  refine n_lagX hG.1.1.2.1 hG.2.1.1.2.1 hG.2.1.1.2.2.1 hd (by omega) (by omega) (n_isThree ⟨fun w => absurd w z, fun _ => n_within ⟨fun _ => ?_, fun w => absurd w y⟩⟩)
  exact n_lagM hG.1.1.2.1 hG.2.2.1.1.2.1 hG.2.2.1.1.2.2.1 hd (by omega) (by omega) ⟨rfl, h'⟩
theorem PT_breakAt_ok : PT_breakAt Inv := by
  intro j t c r p ct kp kr sl sr m a0 a1 hj h
  have h' := Inv_s h
  obtain ⟨_, ⟨G, hG⟩, _⟩ := h
  obtain ⟨b1, _, _, b4⟩ := brk_ok hG.1.1 hG.1.2.1
  exact n_breakAt (J := fun v w => v = w ∧ Inv (j + 1) t c r p ct kp kr sl sr m) hG.2.1.2.1 hG.2.2.2.1 b1.1 b4 (fun v => ⟨rfl, h'⟩)
theorem lz_i {z : Int} (h : inI z) : (lz z).toInt32 = iz z := by
  obtain ⟨a, b⟩ := h
  rw [l2i_iz, lz_toInt ⟨by omega, by omega⟩]
theorem l32 (x : Int32) : x.toInt64.toInt32 = x := by rw [l2i_iz, i2l, iz_of]
section
variable {j : Nat} {c m : RT} {G : GH}
theorem cur_end (hG : Cur j G c m) : (pth G).2.2 ((pth G).1 * 8) = nI (pth G).2.1 ∧ (pth G).2.1 ≤ 8000 ∧ m.2.2 18 = nI (pth G).2.1 ∧ m.2.2 17 = nI (pth G).1 ∧ c.2.2 1 = nI (pth G).1 := ⟨(pth_ok hG.1).2.2.1, (pth_ok hG.1).2.2.2.1, hG.2.2.2.2.2.1.trans (pth_ok hG.1).2.2.1, hG.2.2.2.2.1, hG.2.1.2.2.1⟩
end
theorem PT_value_ok : PT_value Inv := by
  intro j t c r p ct kp kr sl sr m a0 a1 hj h
  have h' := Inv_s h
  obtain ⟨_, ⟨G, hG⟩, _⟩ := h
  obtain ⟨g1, g2, g3, g4, g5⟩ := cur_end hG
  have hn := pth_n hG.1
  have gok := pth_ok hG.1
  refine n_isVariable ⟨fun z => n_isThree ⟨fun _ => ⟨rfl, h'⟩, fun w => absurd z w⟩, fun z => n_isWithin ⟨fun y => ?_, fun y => n_isThree ⟨fun w => absurd w z, fun _ => n_within ⟨fun w => absurd y w, fun _ => ⟨rfl, h'⟩⟩⟩⟩⟩
  obtain ⟨v, hv, rfl⟩ := wi02 (b2_1.mp z)
  refine n_stepTo hG.2.1.2.2 gok.1 (n_endTime hG.2.1.2.2 (by omega) g1 ⟨fun q => ?_, fun q => n_isThree ⟨fun w => absurd w z, fun _ => n_within ⟨fun _ => ?_, fun w => absurd w y⟩⟩⟩)
  · have qi := i_le.mp q
    rw [← g1] at qi
    refine n_valueIn hG.2.1.1.2.2.2.1 hG.1.1.2.2.1 hG.2.1.2.2 gok.1 hv qi (n_isThree ⟨fun w => absurd w z, fun _ => n_within ⟨fun _ => ?_, fun w => absurd w y⟩⟩)
    rw [g3]
    refine ⟨fun _ => n_toldValue hG.2.2.1.1.2.2.2.1 hG.1.1.2.2.1 hG.2.2.2.2 gok.1 hv qi ⟨?_, h'⟩, fun w => absurd q w⟩
    have := tv_bd (n := (pth G).1) (g := (pth G).2.2) (u := a1) hG.1.1 hv
    unfold tvZ at this
    rw [lz_i ⟨by omega, by omega⟩]
  · rw [g3]
    exact ⟨fun w => absurd w q, fun _ => ⟨rfl, h'⟩⟩
theorem PT_slope_ok : PT_slope Inv := by
  intro j t c r p ct kp kr sl sr m a0 a1 hj h
  have h' := Inv_s h
  obtain ⟨_, ⟨G, hG⟩, _⟩ := h
  obtain ⟨g1, g2, g3, g4, g5⟩ := cur_end hG
  have hn := pth_n hG.1
  have gok := pth_ok hG.1
  refine n_isVariable ⟨fun z => n_isThree ⟨fun _ => ⟨rfl, h'⟩, fun w => absurd z w⟩, fun z => n_isWithin ⟨fun y => ?_, fun y => n_isThree ⟨fun w => absurd w z, fun _ => n_within ⟨fun w => absurd y w, fun _ => ⟨rfl, h'⟩⟩⟩⟩⟩
  obtain ⟨v, hv, rfl⟩ := wi02 (b2_1.mp z)
  refine n_stepTo hG.2.1.2.2 gok.1 (n_endTime hG.2.1.2.2 (by omega) g1 ⟨fun q => ?_, fun q => n_isThree ⟨fun w => absurd w z, fun _ => n_within ⟨fun _ => ?_, fun w => absurd w y⟩⟩⟩)
  · have qi := i_le.mp q
    rw [← g1] at qi
    refine n_slopeIn hG.2.1.1.2.2.2.1 hG.1.1.2.2.1 hG.2.1.2.2 gok.1 hv qi (n_isThree ⟨fun w => absurd w z, fun _ => n_within ⟨fun _ => ?_, fun w => absurd w y⟩⟩)
    rw [g3]
    refine ⟨fun _ => n_toldSlope hG.2.2.1.1.2.2.2.1 hG.1.1.2.2.1 hG.2.2.2.2 gok.1 hv qi ⟨?_, h'⟩, fun w => absurd q w⟩
    have := ts_bd (n := (pth G).1) (g := (pth G).2.2) (u := a1) hG.1.1 hv
    unfold tsZ bd2 at this
    rw [lz_i ⟨by omega, by omega⟩]
  · rw [g3]
    exact ⟨fun w => absurd w q, fun _ => ⟨rfl, h'⟩⟩
theorem PT_step_ok : PT_step Inv := by
  intro j t c r p ct kp kr sl sr m a0 a1 hj h
  have h' := Inv_s h
  obtain ⟨_, ⟨G, hG⟩, _⟩ := h
  obtain ⟨g1, g2, g3, g4, g5⟩ := cur_end hG
  have hn := pth_n hG.1
  have hX := hG.2.1.2.2
  have hM := hG.2.2.2.2.2.2
  refine ⟨fun z => ⟨fun _ => ⟨rfl, h'⟩, fun w => absurd z w⟩, fun z => n_isWithin ⟨fun y => ?_, fun y => ⟨fun w => absurd w z, fun _ => n_within ⟨fun w => absurd y w, fun _ => ⟨rfl, h'⟩⟩⟩⟩⟩
  obtain ⟨k, hk, rfl⟩ := nI_of z
  have hb := wi_eq.mp (b2_1.mp y)
  have e0 : (0 : Int32).toInt = 0 := by decide
  have e5 : (5 : Int32).toInt = 5 := by decide
  obtain ⟨w, hw, rfl⟩ := nI_of_int (x := a1) (by omega)
  rw [nI_int hw] at hb
  rw [g5]
  refine ⟨fun q => ?_, fun q => ⟨fun w => absurd w z, fun _ => n_within ⟨fun _ => ?_, fun w => absurd w y⟩⟩⟩
  · have hkn := (nI_ltI (by omega) (by omega)).mp q
    obtain ⟨m1, m2, m3, m4⟩ := hM k hkn
    have vk := vp_in_nI (n := k) (N := 1100) (by omega) (by decide)
    have ref : ∀ J : Int32 → Prop, (nI w = 0 → J (m.1 9 k)) → (nI w = 1 → J (m.1 10 k)) → (nI w = 5 → J (m.1 11 k)) → (¬ nI w = 0 → ¬ nI w = 1 → ¬ nI w = 5 → J ((m.2.1 13 (3 * k + (w - 2))).toInt32)) → wp_X10_step m (nI k) (nI w) J := by
      intro J r0 r1 r5 r2
      refine ⟨fun w => absurd w z, fun _ => n_within ⟨fun _ => ?_, fun w => absurd w y⟩⟩
      rw [g4, nI_clamp (by omega)]
      refine ⟨fun _ => ⟨fun a => ⟨fun b => ⟨fun d => ?_, fun d => ⟨vk, r5 d⟩⟩, fun b => ⟨vk, r1 b⟩⟩, fun a => ⟨vk, r0 a⟩⟩, fun w => absurd q w⟩
      have w0 : w ≠ 0 := fun e => a (by rw [e]; rfl)
      have w1 : w ≠ 1 := fun e => b (by rw [e]; rfl)
      have e : (3 : Int32) * nI k + nI w - 2 = nI (3 * k + (w - 2)) := by
        rw [ix3, show (2 : Int32) = nI 2 from rfl, pk_sub (by omega)]
        congr 1; omega
      rw [e, nI_clamp (by omega)]
      exact ⟨vp_in_nI (by omega) (by decide), r2 a b d⟩
    refine ⟨fun a => ⟨fun b => ⟨fun d => ?_, fun d => ?_⟩, fun b => ?_⟩, fun a => ?_⟩
    · have w0 : w ≠ 0 := fun e => a (by rw [e]; rfl)
      have w1 : w ≠ 1 := fun e => b (by rw [e]; rfl)
      have w5 : w ≠ 5 := fun e => d (by rw [e]; rfl)
      unfold wp_X4_firstSlope
      rw [show nI w - (2 : Int32) = nI (w - 2) by rw [show (2 : Int32) = nI 2 from rfl, pk_sub (by omega)], ix8, ix84]
      refine n_pick (by decide) ?_
      rw [pk_n (by decide) (by omega), hX.2 _ (by omega)]
      refine ref _ (fun e => absurd e a) (fun e => absurd e b) (fun e => absurd e d) (fun _ _ _ => ⟨?_, h'⟩)
      rw [(m4 (w - 2) (by omega)).2.1, l32]
    · unfold wp_X4_roundsOf
      rw [ix8, show nI (k * 8) + (7 : Int32) = nI (k * 8 + 7) by rw [show (7 : Int32) = nI 7 from rfl, nI_add]]
      refine n_pick (by decide) ?_
      rw [pk_n (by decide) (by omega), hX.2 _ (by omega)]
      exact ref _ (fun e => absurd e a) (fun e => absurd e b) (fun _ => ⟨m3.symm, h'⟩) (fun _ _ e => absurd d e)
    · unfold wp_X4_endOf wp_X4_beginOf
      rw [ix8n, ix8]
      refine n_pick (by decide) (n_pick (by decide) ?_)
      rw [pk_n (by decide) (by omega), hX.2 _ (by omega), pk_n (by decide) (by omega), hX.2 _ (by omega)]
      exact ref _ (fun e => absurd e a) (fun _ => ⟨m2.symm, h'⟩) (fun e => by rw [b] at e; exact absurd e (by decide)) (fun _ e _ => absurd b e)
    · unfold wp_X4_beginOf
      rw [ix8]
      refine n_pick (by decide) ?_
      rw [pk_n (by decide) (by omega), hX.2 _ (by omega)]
      exact ref _ (fun _ => ⟨m1.symm, h'⟩) (fun e => by rw [a] at e; exact absurd e (by decide)) (fun e => by rw [a] at e; exact absurd e (by decide)) (fun e _ _ => absurd a e)
  · rw [g4]
    exact ⟨fun w => absurd w q, fun _ => ⟨rfl, h'⟩⟩
theorem PT_count_ok : PT_count Inv := by
  intro j t c r p ct kp kr sl sr m a0 hj h
  have h' := Inv_s h
  obtain ⟨⟨L, len, hT⟩, ⟨G, hG⟩, ⟨cn, k1, k2, k3⟩, _⟩ := h
  obtain ⟨g1, g2, g3, g4, g5⟩ := cur_end hG
  have hn := pth_n hG.1
  have hS := hG.2.1.1
  have hR := hG.2.2.1.1
  have hP := hG.1.1
  have vi : ∀ k : Nat, k < 812 → vp_in (nI k) 812 := fun k hk => vp_in_nI hk (by decide)
  -- the reference, from the number
  have b1 : ∀ {x : Int32} {lo hi : Int32}, wi x lo hi = true → b2 (wi x lo hi) ≠ 0 := fun e => by rw [e]; decide
  have set3 : ∀ (i : Nat) (x : Int32), a0 = nI i → i < 3 → m.1 1 i = x → wp_X10_count m a0 (fun v2 => x = v2 ∧ Inv (j + 1) t c r p ct kp kr sl sr m) := by
    intro i x e hi hx
    subst e
    refine n_within ⟨fun w => absurd w (b1 (wi_eq.mpr ?_)), fun _ => ⟨vi i (by omega), ?_⟩⟩
    · rw [nI_int (by omega), show (0 : Int32).toInt = 0 by decide, show (2 : Int32).toInt = 2 by decide]; omega
    · rw [nI_clamp (by omega), hx]; exact ⟨rfl, h'⟩
  have no : ∀ {x lo hi : Int32}, ¬ (lo.toInt ≤ x.toInt ∧ x.toInt ≤ hi.toInt) → b2 (wi x lo hi) = 0 := fun q => b2_0.mpr (by
    cases e : wi _ _ _ with
    | false => rfl
    | true => exact absurd (wi_eq.mp e) q)
  have l0 : (0 : Int32).toInt = 0 := by decide
  have l2 : (2 : Int32).toInt = 2 := by decide
  have l8 : (8 : Int32).toInt = 8 := by decide
  have l10 : (10 : Int32).toInt = 10 := by decide
  have l11 : (11 : Int32).toInt = 11 := by decide
  have l13 : (13 : Int32).toInt = 13 := by decide
  have pts : ∀ (i : Nat) (x : Int32), a0 = nI (8 + i) → i < 3 → nI (bh (qP G) i) = x → wp_X10_count m a0 (fun v2 => x = v2 ∧ Inv (j + 1) t c r p ct kp kr sl sr m) := by
    intro i x e hi hx
    subst e
    have ei : (nI (8 + i)).toInt = ((8 + i : Nat) : Int) := nI_int (by omega)
    refine n_within ⟨fun _ => n_within ⟨fun w => absurd w (b1 (wi_eq.mpr (by omega))), fun _ => ?_⟩, fun w => absurd (no (by omega)) w⟩
    rw [show nI (8 + i) - (8 : Int32) = nI i by rw [show (8 : Int32) = nI 8 from rfl, pk_sub (by omega)]; congr 1; omega]
    refine n_points hR.2.2.2.1 hi ⟨hx.symm, h'⟩
  have prt : ∀ (i : Nat) (x : Int32), a0 = nI (11 + i) → i < 3 → m.1 1 (6 + i) = x → wp_X10_count m a0 (fun v2 => x = v2 ∧ Inv (j + 1) t c r p ct kp kr sl sr m) := by
    intro i x e hi hx
    subst e
    have ei : (nI (11 + i)).toInt = ((11 + i : Nat) : Int) := nI_int (by omega)
    refine n_within ⟨fun _ => n_within ⟨fun _ => n_within ⟨fun w => absurd w (b1 (wi_eq.mpr (by omega))), fun _ => ?_⟩, fun w => absurd (no (by omega)) w⟩, fun w => absurd (no (by omega)) w⟩
    rw [show (6 : Int32) + nI (11 + i) - (11 : Int32) = nI (6 + i) by rw [show (6 : Int32) = nI 6 from rfl, show (11 : Int32) = nI 11 from rfl, nI_add, pk_sub (by omega)]; congr 1; omega, nI_clamp (by omega), hx]
    exact ⟨vi _ (by omega), rfl, h'⟩
  have rest : ∀ J : Int32 → Prop, ¬ (0 ≤ a0.toInt ∧ a0.toInt ≤ 2) → ¬ (8 ≤ a0.toInt ∧ a0.toInt ≤ 10) → ¬ (11 ≤ a0.toInt ∧ a0.toInt ≤ 13) → (a0 = (3 : Int32) → J (m.2.2 18)) ∧ (¬ a0 = (3 : Int32) → ((a0 = (4 : Int32) → J (m.2.2 17)) ∧ (¬ a0 = (4 : Int32) → ((a0 = (5 : Int32) → J (m.2.2 10)) ∧ (¬ a0 = (5 : Int32) → ((a0 = (6 : Int32) → J (m.2.2 6)) ∧ (¬ a0 = (6 : Int32) → ((a0 = (7 : Int32) → J (m.2.2 2)) ∧ (¬ a0 = (7 : Int32) → ((a0 = (14 : Int32) → wp_X10_used m (fun (r7 : Int32) => J r7)) ∧ (¬ a0 = (14 : Int32) → (J (-2000000001 : Int32))))))))))))) → wp_X10_count m a0 J := by
    intro J q1 q2 q3 hh
    exact n_within ⟨fun _ => n_within ⟨fun _ => n_within ⟨fun _ => hh, fun w => absurd (no (by omega)) w⟩, fun w => absurd (no (by omega)) w⟩, fun w => absurd (no (by omega)) w⟩
  have pc : ∀ (k i : Nat) (a : Int32) (J : Int32 → Prop), a = nI i → i < 3 → J (c.1 k i) → wp_X9_pick 3 (c.1 k) a J := fun k i a J e hi hJ => by rw [e]; exact n_pick (by decide) (by rw [pk_n (by decide) hi]; exact hJ)
  have is3 : ∀ (e : a0 = nI 3) (x : Int32), m.2.2 18 = x → wp_X10_count m a0 (fun v2 => x = v2 ∧ Inv (j + 1) t c r p ct kp kr sl sr m) := fun e x hx => by
    have ei : a0.toInt = 3 := by rw [e]; decide
    exact rest _ (by omega) (by omega) (by omega) ⟨fun _ => ⟨hx.symm, h'⟩, fun w => absurd e w⟩
  have is4 : ∀ (e : a0 = nI 4) (x : Int32), m.2.2 17 = x → wp_X10_count m a0 (fun v2 => x = v2 ∧ Inv (j + 1) t c r p ct kp kr sl sr m) := fun e x hx => by
    have ei : a0.toInt = 4 := by rw [e]; decide
    exact rest _ (by omega) (by omega) (by omega) ⟨fun w => absurd (e.symm.trans w) (by decide), fun _ => ⟨fun _ => ⟨hx.symm, h'⟩, fun w => absurd e w⟩⟩
  have is5 : ∀ (e : a0 = nI 5) (x : Int32), m.2.2 10 = x → wp_X10_count m a0 (fun v2 => x = v2 ∧ Inv (j + 1) t c r p ct kp kr sl sr m) := fun e x hx => by
    have ei : a0.toInt = 5 := by rw [e]; decide
    exact rest _ (by omega) (by omega) (by omega) ⟨fun w => absurd (e.symm.trans w) (by decide), fun _ => ⟨fun w => absurd (e.symm.trans w) (by decide), fun _ => ⟨fun _ => ⟨hx.symm, h'⟩, fun w => absurd e w⟩⟩⟩
  have is6 : ∀ (e : a0 = nI 6) (x : Int32), m.2.2 6 = x → wp_X10_count m a0 (fun v2 => x = v2 ∧ Inv (j + 1) t c r p ct kp kr sl sr m) := fun e x hx => by
    have ei : a0.toInt = 6 := by rw [e]; decide
    exact rest _ (by omega) (by omega) (by omega) ⟨fun w => absurd (e.symm.trans w) (by decide), fun _ => ⟨fun w => absurd (e.symm.trans w) (by decide), fun _ => ⟨fun w => absurd (e.symm.trans w) (by decide), fun _ => ⟨fun _ => ⟨hx.symm, h'⟩, fun w => absurd e w⟩⟩⟩⟩
  have is7 : ∀ (e : a0 = nI 7) (x : Int32), m.2.2 2 = x → wp_X10_count m a0 (fun v2 => x = v2 ∧ Inv (j + 1) t c r p ct kp kr sl sr m) := fun e x hx => by
    have ei : a0.toInt = 7 := by rw [e]; decide
    exact rest _ (by omega) (by omega) (by omega) ⟨fun w => absurd (e.symm.trans w) (by decide), fun _ => ⟨fun w => absurd (e.symm.trans w) (by decide), fun _ => ⟨fun w => absurd (e.symm.trans w) (by decide), fun _ => ⟨fun w => absurd (e.symm.trans w) (by decide), fun _ => ⟨fun _ => ⟨hx.symm, h'⟩, fun w => absurd e w⟩⟩⟩⟩⟩
  have is14 : ∀ (e : a0 = nI 14) (w : Nat), w < 8 → (∀ d, d < 3 → (Ub w d ↔ usP (qP G) d)) → wp_X10_count m a0 (fun v2 => nI w = v2 ∧ Inv (j + 1) t c r p ct kp kr sl sr m) := fun e w hw hu => by
    have ei : a0.toInt = 14 := by rw [e]; decide
    refine rest _ (by omega) (by omega) (by omega) ⟨fun w => absurd (e.symm.trans w) (by decide), fun _ => ⟨fun w => absurd (e.symm.trans w) (by decide), fun _ => ⟨fun w => absurd (e.symm.trans w) (by decide), fun _ => ⟨fun w => absurd (e.symm.trans w) (by decide), fun _ => ⟨fun w => absurd (e.symm.trans w) (by decide), fun _ => ⟨fun _ => n_usedM hP hR.1 (fun w2 hw2 hu2 => ⟨?_, h'⟩), fun w => absurd e w⟩⟩⟩⟩⟩⟩
    rw [Ub_uniq hw hw2 (fun d hd => (hu d hd).trans (hu2 d hd).symm)]
  refine ⟨fun e => ?_, fun e0 => ⟨fun e => ?_, fun e1 => ⟨fun e => ?_, fun e2 => ⟨fun e => ?_, fun e3 => ⟨fun e => ?_, fun e4 => ⟨fun e => ?_, fun e5 => ⟨fun e => ?_, fun e6 => ⟨fun e => ?_, fun e7 => ⟨fun e => ?_, fun e8 => ⟨fun e => ?_, fun e9 => ⟨fun e => ?_, fun e10 => ⟨fun e => ?_, fun e11 => ⟨fun e => ?_, fun e12 => ⟨fun e => ?_, fun e13 => ⟨fun e => ?_, fun e14 => ?_⟩⟩⟩⟩⟩⟩⟩⟩⟩⟩⟩⟩⟩⟩⟩
  · exact pc 12 0 _ _ e (by decide) (set3 0 _ e (by decide) (hR.2.2.2.2.1.trans hS.2.2.2.2.1.symm))
  · exact pc 12 1 _ _ e (by decide) (set3 1 _ e (by decide) (hR.2.2.2.2.2.1.trans hS.2.2.2.2.2.1.symm))
  · exact pc 12 2 _ _ e (by decide) (set3 2 _ e (by decide) (hR.2.2.2.2.2.2.trans hS.2.2.2.2.2.2.symm))
  · exact n_endTime hG.2.1.2.2 (by omega) g1 (is3 e _ g3)
  · rw [g5]; exact is4 e _ g4
  · rw [hG.2.1.2.1.1]; exact is5 e _ hG.2.2.2.1.1
  · rw [hT.2.1]; exact is6 e _ hT.2.2.2.1
  · exact is7 e _ (k2.trans k1.symm)
  · exact pc 9 0 _ _ (by rw [e]; rfl) (by decide) (pts 0 _ e (by decide) (hS.2.2.2.1 0 (by decide)).1.symm)
  · exact pc 9 1 _ _ (by rw [e]; rfl) (by decide) (pts 1 _ e (by decide) (hS.2.2.2.1 1 (by decide)).1.symm)
  · exact pc 9 2 _ _ (by rw [e]; rfl) (by decide) (pts 2 _ e (by decide) (hS.2.2.2.1 2 (by decide)).1.symm)
  · exact pc 7 0 _ _ (by rw [e]; rfl) (by decide) (prt 0 _ e (by decide) (i_ext ((hR.2.2.1 0 (by decide)).trans (hS.2.2.1 0 (by decide)).symm)))
  · exact pc 7 1 _ _ (by rw [e]; rfl) (by decide) (prt 1 _ e (by decide) (i_ext ((hR.2.2.1 1 (by decide)).trans (hS.2.2.1 1 (by decide)).symm)))
  · exact pc 7 2 _ _ (by rw [e]; rfl) (by decide) (prt 2 _ e (by decide) (i_ext ((hR.2.2.1 2 (by decide)).trans (hS.2.2.1 2 (by decide)).symm)))
  · exact n_allOps hP hS (n_usedX hP (fun w hw hu => is14 e w hw hu))
  · have ne : ∀ k : Nat, k < 15 → ¬ a0 = nI k → a0.toInt ≠ (k : Int) := fun k hk q w => q (i_ext (by rw [w, nI_int (by omega)]))
    have f0 := ne 0 (by decide) e0
    have f1 := ne 1 (by decide) e1
    have f2 := ne 2 (by decide) e2
    have f8 := ne 8 (by decide) e8
    have f9 := ne 9 (by decide) e9
    have f10 := ne 10 (by decide) e10
    have f11 := ne 11 (by decide) e11
    have f12 := ne 12 (by decide) e12
    have f13 := ne 13 (by decide) e13
    exact rest _ (by omega) (by omega) (by omega) ⟨fun w => absurd w e3, fun _ => ⟨fun w => absurd w e4, fun _ => ⟨fun w => absurd w e5, fun _ => ⟨fun w => absurd w e6, fun _ => ⟨fun w => absurd w e7, fun _ => ⟨fun w => absurd w e14, fun _ => ⟨rfl, h'⟩⟩⟩⟩⟩⟩⟩
