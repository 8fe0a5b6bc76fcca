/-! break points fit -/
theorem QB_made {U : Nat → Prop} {c p : Nat → Int} : ∀ L t o d, QB U c p L t (o + 1) d → ∃ b e, QB U c p L b o e ∧ d < 3 ∧ U d ∧ madeN (c d) (p d) b = t ∧ t ≠ 0 := by
  intro L
  induction L with
  | zero =>
    rintro t o d ⟨h1, h2, h3⟩
    omega
  | succ L ih =>
    rintro t o d (h | ⟨h1, h2, ⟨b, e, q1, q2, q3, q4, q5, -⟩, h4⟩)
    · obtain ⟨b, e, a1, a2⟩ := ih t o d h
      exact ⟨b, e, Or.inl a1, a2⟩
    · have : o = L := by omega
      subst this
      exact ⟨b, e, Or.inl q1, q2, q3, q4, q5⟩
theorem made_first {c s : Int} {b t : Nat} (hb : b ≤ 8000) (h : madeN c s b = t) (h0 : t ≠ 0) : isFirst c s b t ∧ t ≤ 8000 ∧ 0 < lagI c s t := by
  have hT := firstT_ok (c := c) (s := s) hb
  unfold madeN at h
  by_cases q : 8000 < firstT c s b ∨ lagI c s (firstT c s b) = 0
  · rw [if_pos q] at h; exact absurd h.symm h0
  · rw [if_neg q] at h
    rw [h] at hT q
    have := lag_nn (c := c) (s := s) (t := (t : Int))
    exact ⟨hT, by omega, by omega⟩
/-- of each break point but the first: who made it -/
theorem brk_maker {P : PB} {n : Nat} {T O D : Nat → Nat} (hP : POKp P) (h : BrkOK P n T O D) {k : Nat} (hk : k < n) (h0 : 0 < k) : 1 ≤ O k ∧ O k ≤ bO P ∧ D k < 3 ∧ usP P (D k) ∧ T (k - 1) < T k ∧ T k ≤ 8000 ∧ 0 < lagI (bc P (D k)) (bp P (D k)) (T k) ∧ ∃ i, i < k ∧ O i = O k - 1 ∧ isFirst (bc P (D k)) (bp P (D k)) (T i) (T k) := by
  obtain ⟨b1, b2, b3, b4⟩ := brk_ok hP h
  have hq := (h.1.2 (T k) (O k) (D k)).mpr ⟨k, hk, rfl, rfl, rfl⟩
  obtain ⟨a1, a2, a3, a4, -⟩ := QB_in (bO P) _ _ _ hq
  have ht : T k ≠ 0 := fun e => by have := (b4 k hk).mp e; omega
  have ho : O k ≠ 0 := fun e => ht (a4.mpr e)
  have hs := Srt_lt h.2 (show k - 1 < k by omega) hk
  rw [show O k = O k - 1 + 1 by omega] at hq
  obtain ⟨b, e, q1, q2, q3, q4, q5⟩ := QB_made (bO P) _ _ _ hq
  obtain ⟨i, i1, i2, i3, i4⟩ := (h.1.2 b (O k - 1) e).mp q1
  have hb : b ≤ 8000 := (QB_in (bO P) _ _ _ q1).2.1
  obtain ⟨f1, f2, f3⟩ := made_first hb q4 q5
  refine ⟨by omega, a1, a3, q3, hs, a2, f3, i, ?_, i3, by rw [i2]; exact f1⟩
  have hlt := f1.1
  rcases Nat.lt_or_ge i k with w | w
  · exact w
  · exfalso
    by_cases e2 : i = k
    · rw [e2] at i2; omega
    · have := Srt_lt h.2 (show k < i by omega) i1
      omega
section
variable {A : AB}
theorem br_n (hA : AOK A) : qn (aG A) ≤ 40 ∧ 0 < qn (aG A) := by
  have h := (brk_ok hA.1.1 hA.1.2.1).1
  exact ⟨h.1, h.2.1⟩
theorem br_at (hA : AOK A) {i : Nat} (hi : i < qn (aG A)) : qr_brk A (nI i) 0 = nI (qT (aG A) i) ∧ qr_brk A (nI i) 1 = nI (qO (aG A) i) ∧ (0 < i → qr_brk A (nI i) 2 = nI (qD (aG A) i)) := by
  have h40 := (br_n hA).1
  have n1 : ∀ w : Int32, wi w 0 2 = true → ¬ (nI i < 0 ∨ wi w 0 2 = false) := fun w hw q => q.elim (fun z => nI_pos (by omega) z) (fun z => by rw [hw] at z; exact absurd z (by decide))
  have n2 : ∀ w : Int32, (0 < i ∨ ¬ w = 2) → ¬ (nI (qn (aG A)) ≤ nI i ∨ (nI i = 0 ∧ w = 2)) := fun w hw q => q.elim (fun z => by have := (nI_leI (by omega) (by omega)).mp z; omega) (fun z => hw.elim (fun y => by have := (nI_eq (b := 0) (by omega) (by decide)).mp z.1; omega) (fun y => y z.2))
  unfold qr_brk
  rw [nI_clamp (by omega)]
  refine ⟨?_, ?_, fun h0 => ?_⟩
  · rw [if_neg (n1 0 (by decide)), if_neg (n2 0 (Or.inr (by decide))), if_pos rfl]
  · rw [if_neg (n1 1 (by decide)), if_neg (n2 1 (Or.inr (by decide))), if_neg (by decide), if_pos rfl]
  · rw [if_neg (n1 2 (by decide)), if_neg (n2 2 (Or.inl h0)), if_neg (by decide), if_neg (by decide)]
theorem br_out (hA : AOK A) : qr_brk A (nI (qn (aG A))) 0 = -2000000004 ∧ qr_brk A 0 2 = -2000000004 := by
  have h40 := (br_n hA).1
  unfold qr_brk
  refine ⟨?_, ?_⟩
  · rw [if_neg (fun q => q.elim (fun z => nI_pos (by omega) z) (fun z => absurd z (by decide))), if_pos (Or.inl (nI_le (Nat.le_refl _) (by omega)))]
  · rw [if_neg (fun q => q.elim (fun z => absurd z (by decide)) (fun z => absurd z (by decide))), if_pos (Or.inr ⟨rfl, rfl⟩)]
theorem lag_at {d t : Nat} (hd : d < 3) (ht : t ≤ 8000) : qr_lag A (nI d) (nI t) = iz (lagI (bc (aP A) d) (bp (aP A) d) t) := by
  have e0 : (0 : Int32).toInt = 0 := by decide
  have e2 : (2 : Int32).toInt = 2 := by decide
  have e8 : (8000 : Int32).toInt = 8000 := by decide
  have ed : (nI d).toInt = (d : Int) := nI_int (by omega)
  have et : (nI t).toInt = (t : Int) := nI_int (by omega)
  unfold qr_lag
  rw [if_pos ⟨wi_eq.mpr (by omega), wi_eq.mpr (by omega)⟩, nI_clamp (by omega)]
  unfold lgI
  rw [et]
theorem lag_in (hA : AOK A) {d t : Nat} (hd : d < 3) (ht : t ≤ 8000) : 0 ≤ lagI (bc (aP A) d) (bp (aP A) d) t ∧ lagI (bc (aP A) d) (bp (aP A) d) t ≤ 12201 ∧ (qr_lag A (nI d) (nI t)).toInt = lagI (bc (aP A) d) (bp (aP A) d) t := by
  obtain ⟨h1, h2, h3, h4⟩ := hA.1.1.2.1 d hd
  have a1 := lag_nn (c := bc (aP A) d) (s := bp (aP A) d) (t := (t : Int))
  have a2 : lagI (bc (aP A) d) (bp (aP A) d) t ≤ 12201 := lag_le h1 h2 h3 h4 (by omega) (by omega)
  refine ⟨a1, a2, ?_⟩
  rw [lag_at hd ht, iz_toInt ⟨by omega, by omega⟩]
theorem q14 (A : AB) : qr_count A 14 = nI (usW (aP A)) := rfl
theorem q2 (A : AB) : qr_count A 2 = nI (bO (aP A)) := rfl
theorem q0 (A : AB) : qr_count A 0 = nI (bS (aP A)) := rfl
theorem q1 (A : AB) : qr_count A 1 = nI (bR (aP A)) := rfl
theorem q3 (A : AB) : qr_count A 3 = nI (aT A).2.1 := rfl
theorem us_bit {P : PB} {d : Nat} (hd : d < 3) : ((nI (usW P) >>> (nI d &&& 31)) &&& (1 : Int32)) = 1 ↔ usP P d := by
  obtain ⟨u1, u2⟩ := usW_ok P
  have h2 : usW P / 2 ^ d ≤ usW P := Nat.div_le_self _ _
  rw [pk_shrN (by omega) _ d (sh_p d (by omega)), pk_andN (by omega) 1 (by decide), ← u2 d hd]
  unfold Ub
  have h3 : usW P / 2 ^ d % 2 < 2 := Nat.mod_lt _ (by decide)
  exact nI_eq (b := 1) (by omega) (by decide)
theorem bf203 (hA : AOK A) {k i0 : Nat} {K : Int32 → Prop} {k84 : Int32 → Int32 → Int32 → Int32 → Prop} {x1 x2 : Int32} (hk : k < qn (aG A)) (h0 : 0 < k) (hi0 : i0 < k) (ho : qO (aG A) i0 = qO (aG A) k - 1) (hf : isFirst (bc (aP A) (qD (aG A) k)) (bp (aP A) (qD (aG A) k)) (qT (aG A) i0) (qT (aG A) k)) (hK : k84 x1 x2 1 (nI (k + 1))) : ∀ (f i : Nat), i ≤ i0 → f + i = k + 1 → lp_L_breaksFit_203 A K k84 (f + 1) x1 x2 1 (nI k) (nI (qT (aG A) k)) (nI (qO (aG A) k)) (nI (qD (aG A) k)) 0 (nI i) := by
  have h40 := (br_n hA).1
  obtain ⟨m1, m2, m3, m4, m5, m6, m7, -⟩ := brk_maker hA.1.1 hA.1.2.1 hk h0
  have m2' : bO (aP A) ≤ 3 := hA.1.1.2.2.2.2.2
  have m2'' : qO (aG A) k ≤ bO (aP A) := m2
  have hT8 : ∀ i, i < qn (aG A) → qT (aG A) i ≤ 8000 := (brk_ok hA.1.1 hA.1.2.1).1.2.2.2
  have hTk := hT8 k hk
  have made : ∀ f i, lp_L_breaksFit_203 A K k84 (f + 1) x1 x2 1 (nI k) (nI (qT (aG A) k)) (nI (qO (aG A) k)) (nI (qD (aG A) k)) 1 (nI i) := by
    intro f i
    have j300 : jp_L_breaksFit_300 A K k84 x1 x2 1 (nI k) 1 := ⟨fun q => absurd q (by decide), fun _ => ⟨fun q => absurd q (by decide), fun _ x14 h14 => by rw [h14, nI_1]; exact hK⟩⟩
    exact ⟨fun _ => j300, fun _ => ⟨fun q => absurd q (by decide), fun _ => ⟨fun _ => j300, fun q => absurd q (by decide)⟩⟩⟩
  intro f
  induction f with
  | zero => intro i a b; omega
  | succ f ih =>
    intro i a b
    obtain ⟨r0, r1, -⟩ := br_at hA (show i < qn (aG A) by omega)
    have hti := hT8 i (by omega)
    have j287 : ∀ x17, jp_L_breaksFit_287 A K k84 (fun v0 v1 v2 v3 v4 v5 v6 v7 v8 => lp_L_breaksFit_203 A K k84 (f + 1) v0 v1 v2 v3 v4 v5 v6 v7 v8) x1 x2 1 (nI k) (nI (qT (aG A) k)) (nI (qO (aG A) k)) (nI (qD (aG A) k)) x17 := fun x17 x22 h22 => by
      subst h22
      rcases Classical.em (∃ j : Nat, j < 2147483648 ∧ x17 + 1 = nI j) with ⟨j, _, e⟩ | _
      · rw [e]; exact made f j
      · have j300 : jp_L_breaksFit_300 A K k84 x1 x2 1 (nI k) 1 := ⟨fun q => absurd q (by decide), fun _ => ⟨fun q => absurd q (by decide), fun _ x14 h14 => by rw [h14, nI_1]; exact hK⟩⟩
        exact ⟨fun _ => j300, fun _ => ⟨fun q => absurd q (by decide), fun _ => ⟨fun _ => j300, fun q => absurd q (by decide)⟩⟩⟩
    have j291 : i < i0 → jp_L_breaksFit_291 A K k84 (fun v0 v1 v2 v3 v4 v5 v6 v7 v8 => lp_L_breaksFit_203 A K k84 (f + 1) v0 v1 v2 v3 v4 v5 v6 v7 v8) x1 x2 1 (nI k) (nI (qT (aG A) k)) (nI (qO (aG A) k)) (nI (qD (aG A) k)) (nI i) := fun hlt x19 h19 => by
      rw [nI_1] at h19
      subst h19
      exact ih (i + 1) (by omega) (by omega)
    refine ⟨fun q => ?_, fun _ => ⟨fun q => absurd q (by decide), fun _ => ⟨fun q => absurd rfl q, fun _ x17 h17 => ?_⟩⟩⟩
    · have := (nI_leI (by omega) (by omega)).mp q
      omega
    rw [r0] at h17
    subst h17
    have eo : nI (qO (aG A) k) - (1 : Int32) = nI (qO (aG A) k - 1) := p1 (by omega)
    rw [r1, eo]
    obtain ⟨l1, l2, l3⟩ := lag_in hA m3 hTk
    have et : (nI (qT (aG A) k)).toInt = (qT (aG A) k : Int) := nI_int (by omega)
    have eti : (nI (qT (aG A) i)).toInt = (qT (aG A) i : Int) := nI_int (by omega)
    have e1 : (nI (qT (aG A) k) - qr_lag A (nI (qD (aG A) k)) (nI (qT (aG A) k))).toInt = (qT (aG A) k : Int) - lagI (bc (aP A) (qD (aG A) k)) (bp (aP A) (qD (aG A) k)) (qT (aG A) k) := i_sub et l3 ⟨by omega, by omega⟩
    refine ⟨fun q => j291 ?_, fun q => ⟨fun q2 => j291 ?_, fun q2 => ⟨fun _ => j287 _, fun q3 => ⟨fun q4 => j291 ?_, fun _ => j287 _⟩⟩⟩⟩
    · rcases Nat.lt_or_ge i i0 with w | w
      · exact w
      · exact absurd (by rw [show i = i0 by omega, ho]) q
    · rcases Nat.lt_or_ge i i0 with w | w
      · exact w
      · exfalso
        have e : i = i0 := by omega
        subst e
        rw [i_lt, e1, eti] at q2
        have := hf.2.2.1 hTk
        omega
    · rcases Nat.lt_or_ge i i0 with w | w
      · exact w
      · exfalso
        have e : i = i0 := by omega
        subst e
        have hlt := hf.1
        have hne : qT (aG A) k ≠ qT (aG A) i + 1 := fun e => q3 (by rw [e, nI_1])
        have hu := hf.2.2.2 (qT (aG A) k - 1) (by omega) (by omega)
        rw [p1 (show qT (aG A) k ≠ 0 by omega)] at q4
        obtain ⟨l4, l5, l6⟩ := lag_in hA m3 (show qT (aG A) k - 1 ≤ 8000 by omega)
        have et1 : (nI (qT (aG A) k - 1)).toInt = ((qT (aG A) k - 1 : Nat) : Int) := nI_int (by omega)
        have e2 : (nI (qT (aG A) k - 1) - qr_lag A (nI (qD (aG A) k)) (nI (qT (aG A) k - 1))).toInt = ((qT (aG A) k - 1 : Nat) : Int) - lagI (bc (aP A) (qD (aG A) k)) (bp (aP A) (qD (aG A) k)) ((qT (aG A) k - 1 : Nat) : Int) := i_sub et1 l6 ⟨by omega, by omega⟩
        rw [i_le, e2, eti] at q4
        omega
theorem bf84 (hA : AOK A) {K : Int32 → Prop} (hK : K 1) : ∀ (f k : Nat), 1 ≤ k → f + k = qn (aG A) → lp_L_breaksFit_84 A K (f + 1) (nI (qn (aG A))) (nI (usW (aP A))) 1 (nI k) := by
  have h40 := (br_n hA).1
  have fin : ∀ q : Prop, q → (narrow .boolean (.int (1 : Int32)) = .int (1 : Int32)) ∧ K 1 := fun _ _ => ⟨rfl, hK⟩
  intro f
  induction f with
  | zero =>
    intro k h1 h2
    refine ⟨fun _ => ⟨rfl, hK⟩, fun q => absurd (nI_le (by omega) (by omega)) q⟩
  | succ f ih =>
    intro k h1 h2
    have hk : k < qn (aG A) := by omega
    obtain ⟨r0, r1, r2⟩ := br_at hA hk
    obtain ⟨s0, -, -⟩ := br_at hA (show k - 1 < qn (aG A) by omega)
    obtain ⟨m1, m2, m3, m4, m5, m6, m7, i0, n1, n2, n3⟩ := brk_maker hA.1.1 hA.1.2.1 hk h1
    have m2' : bO (aP A) ≤ 3 := hA.1.1.2.2.2.2.2
    have m2'' : qO (aG A) k ≤ bO (aP A) := m2
    obtain ⟨l1, l2, l3⟩ := lag_in hA m3 m6
    refine ⟨fun q => ?_, fun _ => ⟨fun q => absurd q (by decide), fun _ x6 h6 x7 h7 x8 h8 => ?_⟩⟩
    · have := (nI_leI (by omega) (by omega)).mp q
      omega
    rw [r0] at h6
    rw [r1] at h7
    rw [r2 h1] at h8
    subst h6; subst h7; subst h8
    rw [p1 (show k ≠ 0 by omega), s0, q2]
    refine ⟨fun q => ?_, fun _ => ⟨fun q => ?_, fun _ => ⟨fun q => ?_, fun _ => ⟨fun q => ?_, fun _ => ⟨fun q => absurd q (nI_pos (by omega)), fun _ => ⟨fun q => ?_, fun _ => ⟨fun q => absurd ((us_bit m3).mpr m4) q, fun _ => ⟨fun q => ?_, fun _ => ?_⟩⟩⟩⟩⟩⟩⟩⟩
    · have := (nI_leI (by omega) (by omega)).mp q
      omega
    · have := (nI_ltI (a := 8000) (by decide) (by omega)).mp q
      omega
    · have := (nI_ltI (b := 1) (by omega) (by decide)).mp q
      omega
    · have := (nI_ltI (by omega) (by omega)).mp q
      omega
    · have := (nI_leI (a := 3) (by decide) (by omega)).mp q
      omega
    · rw [i_le, l3] at q
      have m7' : 0 < lagI (bc (aP A) (qD (aG A) k)) (bp (aP A) (qD (aG A) k)) (qT (aG A) k) := m7
      have e0 : (0 : Int32).toInt = 0 := by decide
      omega
    · exact ⟨k + 1 + 1, bf203 hA hk h1 n1 n2 n3 (ih (k + 1) (by omega) (by omega)) (k + 1) 0 (Nat.zero_le _) rfl⟩
theorem n_breaksFit {K : Int32 → Prop} (hA : AOK A) (hK : K 1) : wp_L_breaksFit A K := by
  obtain ⟨h40, hpos⟩ := br_n hA
  obtain ⟨b1, b2, b3, b4⟩ := brk_ok hA.1.1 hA.1.2.1
  obtain ⟨r0, r1, -⟩ := br_at hA hpos
  obtain ⟨o1, o2⟩ := br_out hA
  intro x1 h1 x2 h2
  rw [q5] at h1
  rw [q14] at h2
  subst h1; subst h2
  have j75 : jp_L_breaksFit_75 A K (nI (qn (aG A))) (nI (usW (aP A))) := ⟨_, bf84 hA hK (qn (aG A) - 1) 1 (Nat.le_refl _) (by omega)⟩
  have t0 : qT (aG A) 0 = 0 := b1.2.2.1
  have o0 : qO (aG A) 0 = 0 := b2
  rw [t0] at r0
  rw [o0] at r1
  -- what is used, where there are further ones
  have two : 2 ≤ qn (aG A) → usW (aP A) ≠ 0 ∧ 0 < bO (aP A) := by
    intro h
    obtain ⟨m1, m2, m3, m4, -⟩ := brk_maker hA.1.1 hA.1.2.1 (show 1 < qn (aG A) by omega) (by omega)
    refine ⟨fun e => ?_, ?_⟩
    · have := ((usW_ok (aP A)).2 _ m3).mpr m4
      unfold Ub at this
      rw [e, Nat.zero_div] at this
      exact absurd this (by decide)
    · have : qO (aG A) 1 ≤ bO (aP A) := m2
      omega
  have j70 : ¬ 2 ≤ qn (aG A) → jp_L_breaksFit_70 A K (nI (qn (aG A))) (nI (usW (aP A))) := fun h => ⟨fun q => absurd (by rw [show qn (aG A) = 1 by omega]; rfl) q, fun _ => j75⟩
  have hus := (usW_ok (aP A)).1
  have hbo : bO (aP A) ≤ 3 := hA.1.1.2.2.2.2.2
  refine ⟨fun q => ?_, fun _ => ⟨fun q => absurd r0 q, fun _ => ⟨fun q => absurd r1 q, fun _ => ⟨fun q => absurd o2 q, fun _ => ⟨fun q => absurd o1 q, fun _ => ⟨fun q => j70 (fun w => (two w).1 ((nI_eq (b := 0) (by omega) (by decide)).mp q)), fun _ => ⟨fun _ => j75, fun q => j70 (fun w => q ?_)⟩⟩⟩⟩⟩⟩⟩
  · have := (nI_ltI (b := 1) (by omega) (by decide)).mp q
    omega
  · rw [q2]
    exact nI_lt (a := 0) (two w).2 (by omega)
end
