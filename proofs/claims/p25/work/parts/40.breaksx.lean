/-! break points: how the class finds them -/
theorem mkP_congr {U : Nat → Prop} {c p : Nat → Int} {Q : Nat → Nat → Nat → Prop} {l : Nat} {P P' : Nat → Nat → Prop} (h : ∀ b d e, d < 3 → Q b l e → (P b d ↔ P' b d)) : mkP U c p Q l P = mkP U c p Q l P' := by
  funext t d
  apply propext
  constructor
  · rintro ⟨b, e, q1, q2, q3, q4, q5, q6⟩
    exact ⟨b, e, q1, q2, q3, q4, q5, (h b d e q2 q1).mp q6⟩
  · rintro ⟨b, e, q1, q2, q3, q4, q5, q6⟩
    exact ⟨b, e, q1, q2, q3, q4, q5, (h b d e q2 q1).mpr q6⟩
theorem mkP_add {U : Nat → Prop} {c p : Nat → Int} {Q : Nat → Nat → Nat → Prop} {l b0 d0 e0 : Nat} {P : Nat → Nat → Prop} (hq : Q b0 l e0) (hU : U d0) (hd : d0 < 3) (hm : madeN (c d0) (p d0) b0 ≠ 0) : mkP U c p Q l (fun b d => P b d ∨ (b = b0 ∧ d = d0)) = addmk (mkP U c p Q l P) (madeN (c d0) (p d0) b0) d0 := by
  funext t d
  apply propext
  constructor
  · rintro ⟨b, e, q1, q2, q3, q4, q5, q6 | ⟨q6, q7⟩⟩
    · exact Or.inl ⟨b, e, q1, q2, q3, q4, q5, q6⟩
    · subst q6; subst q7; exact Or.inr ⟨q4.symm, rfl⟩
  · rintro (⟨b, e, q1, q2, q3, q4, q5, q6⟩ | ⟨w1, w2⟩)
    · exact ⟨b, e, q1, q2, q3, q4, q5, Or.inl q6⟩
    · subst w1; subst w2; exact ⟨b0, e0, hq, hd, hU, rfl, hm, Or.inr ⟨rfl, rfl⟩⟩
theorem mkP_not {U : Nat → Prop} {c p : Nat → Int} {Q : Nat → Nat → Nat → Prop} {l b0 d0 : Nat} {P : Nat → Nat → Prop} (h : ∀ e, ¬ (Q b0 l e ∧ U d0 ∧ madeN (c d0) (p d0) b0 ≠ 0)) : mkP U c p Q l (fun b d => P b d ∨ (b = b0 ∧ d = d0)) = mkP U c p Q l P := by
  funext t d
  apply propext
  constructor
  · rintro ⟨b, e, q1, q2, q3, q4, q5, q6 | ⟨q6, q7⟩⟩
    · exact ⟨b, e, q1, q2, q3, q4, q5, q6⟩
    · subst q6; subst q7; exact absurd ⟨q1, q3, by rw [q4]; exact q5⟩ (h e)
  · rintro ⟨b, e, q1, q2, q3, q4, q5, q6⟩
    exact ⟨b, e, q1, q2, q3, q4, q5, Or.inl q6⟩
theorem Qm_none {U : Nat → Prop} {c p : Nat → Int} {Q : Nat → Nat → Nat → Prop} {l : Nat} : Qm Q l (mkP U c p Q l (fun _ _ => False)) = Q := by
  funext t o d
  apply propext
  constructor
  · rintro (w | ⟨_, _, ⟨b, e, q1, q2, q3, q4, q5, q6⟩, _⟩)
    · exact w
    · exact absurd q6 id
  · exact Or.inl
def Same3 (s s' : RT) : Prop := (∀ j, j ≠ 14 → j ≠ 15 → j ≠ 16 → s'.1 j = s.1 j) ∧ s'.2.1 = s.2.1 ∧ ∀ k, k ≠ 0 → s'.2.2 k = s.2.2 k
theorem Same3_r (s : RT) : Same3 s s := ⟨fun _ _ _ _ => rfl, rfl, fun _ _ => rfl⟩
theorem Same3_t {a b c : RT} (h : Same3 a b) (k : Same3 b c) : Same3 a c := ⟨fun j h1 h2 h3 => (k.1 j h1 h2 h3).trans (h.1 j h1 h2 h3), k.2.1.trans h.2.1, fun j h1 => (k.2.2 j h1).trans (h.2.2 j h1)⟩
def BX (s : RT) (n : Nat) (T O D : Nat → Nat) : Prop := s.2.2 0 = nI n ∧ ∀ i, i < n → s.1 14 i = nI (T i) ∧ s.1 15 i = nI (O i) ∧ s.1 16 i = nI (D i)
theorem n_pb {s : RT} {n u : Nat} {T O D : Nat → Nat} {K : Int32 → Prop} (hB : BX s n T O D) (hn : n ≤ 40) (hT : ∀ i, i < n → T i ≤ 8000) (hu : u ≤ 8001) (h : ∀ k, k ≤ n → (∀ i, i < k → T i < u) → (k < n → u ≤ T k) → K (nI k)) : wp_X0_pointsBefore s (nI u) K := by
  have key : ∀ m k, k + m = n → (∀ i, i < k → T i < u) → lp_X0_pointsBefore_2 s (nI u) K (m + 1) (nI k) := by
    intro m
    induction m with
    | zero =>
      intro k h1 h2
      refine ⟨fun _ => h k (by omega) h2 (by omega), fun _ => ⟨fun _ => h k (by omega) h2 (by omega), fun q => ?_⟩⟩
      rw [hB.1] at q
      exact absurd (nI_le (show n ≤ k by omega) (by omega)) q
    | succ m ih =>
      intro k h1 h2
      refine ⟨fun q => ?_, fun _ => ⟨fun q => ?_, fun _ => ?_⟩⟩
      · have := (nI_leI (a := 40) (by decide) (by omega)).mp q
        omega
      · rw [hB.1] at q
        have := (nI_leI (by omega) (by omega)).mp q
        omega
      · refine n_pick (by decide) ?_
        rw [pk_n (by decide) (by omega), (hB.2 k (by omega)).1]
        have hk := hT k (by omega)
        refine ⟨fun q => h k (by omega) h2 (fun _ => (nI_leI (by omega) (by omega)).mp q), fun q x5 hx5 => ?_⟩
        have e5 : x5 = nI (k + 1) := hx5.trans (nI_1 k)
        subst e5
        refine ih (k + 1) (by omega) (fun i hi => ?_)
        by_cases e : i = k
        · subst e
          rcases Nat.lt_or_ge (T i) u with w | w
          · exact w
          · exact absurd (nI_le w (by omega)) q
        · exact h2 i (by omega)
  exact ⟨n + 1, key n 0 (by omega) (fun i hi => by omega)⟩
theorem room_ins {f : Nat → Int32} {T : Nat → Nat} {n i x : Nat} (h : ∀ j, j < n → f j = nI (T j)) (hi : i ≤ n) : ∀ j, j < n + 1 → upd (mkroom f i n) i (nI x) j = nI (insT i x T j) := by
  intro j hj
  unfold upd mkroom insT
  by_cases e : j = i
  · subst e; rw [if_pos rfl, if_neg (by omega), if_pos rfl]
  · rw [if_neg e]
    by_cases q : j < i
    · rw [if_neg (by omega), if_pos q, h j (by omega)]
    · rw [if_pos (by omega), if_neg q, if_neg e, h (j - 1) (by omega)]
theorem n_addX {s : RT} {n l t0 d0 : Nat} {T O D : Nat → Nat} {Q : Nat → Nat → Nat → Prop} {mk : Nat → Nat → Prop} {K : RT → Prop} (hB : BX s n T O D) (hS : Srt n T) (hR : Rep n T O D (Qm Q l mk)) (hQ : ∀ t o d, Q t o d → o ≤ l) (hl : l < 3) (hd : d0 < 3)
    (hin : ∀ t o d, Qm Q l mk t o d → t ≤ 8000 ∧ o ≤ 3 ∧ d < 3) (ht : 0 < t0) (ht2 : t0 ≤ 8000) (hn : n ≤ 40) (hf : ∀ n' T' O' D', Rep n' T' O' D' (Qm Q l (addmk mk t0 d0)) → n' ≤ 40)
    (h : ∀ s' n' T' O' D', Same3 s s' → BX s' n' T' O' D' → Srt n' T' → Rep n' T' O' D' (Qm Q l (addmk mk t0 d0)) → n ≤ n' → (∀ i, T i < t0 → i < n → T' i = T i) → K s') : wp_X0_add s (nI t0) (nI (l + 1)) (nI d0) K := by
  have hTi : ∀ i, i < n → T i ≤ 8000 ∧ O i ≤ 3 ∧ D i < 3 := fun i hi => hin _ _ _ ((hR.2 _ _ _).mpr ⟨i, hi, rfl, rfl, rfl⟩)
  refine ⟨fun _ => ?_, fun q => absurd (nI_lt (a := 0) ht (by omega)) q⟩
  refine n_pb hB hn (fun i hi => (hTi i hi).1) (by omega) (fun k k1 k2 k3 => ?_)
  have hnew : (∀ j, j < n → T j ≠ t0) → jp_X0_add_70 (nI t0) (nI (l + 1)) (nI d0) K (nI k) s := by
    intro hab
    have hr2 := rep_ins (i := k) (d0 := d0) hR k1 hab
    have hn2 := hf _ _ _ _ hr2
    unfold jp_X0_add_70
    rw [hB.1]
    refine ⟨fun _ => ?_, fun q => absurd ((nI_ltI (b := 40) (by omega) (by decide)).mpr (by omega)) q⟩
    refine n_makeRoom (by decide) (by omega) k1 ?_
    intro s6 h6; subst h6
    rw [show ((rI s 14 (mkroom (s.1 14) k n)).2.2 0) = nI n from hB.1, show (rI s 14 (mkroom (s.1 14) k n)).1 15 = s.1 15 from rfl]
    refine n_makeRoom (by decide) (by omega) k1 ?_
    intro s8 h8; subst h8
    rw [show ((rI (rI s 14 (mkroom (s.1 14) k n)) 15 (mkroom (s.1 15) k n)).2.2 0) = nI n from hB.1, show (rI (rI s 14 (mkroom (s.1 14) k n)) 15 (mkroom (s.1 15) k n)).1 16 = s.1 16 from rfl]
    refine n_makeRoom (by decide) (by omega) k1 ?_
    intro s10 h10; subst h10
    refine n_put (by decide) ?_
    rw [pt_n (by decide) (by omega)]
    intro s12 h12; subst h12
    refine n_put (by decide) ?_
    rw [pt_n (by decide) (by omega)]
    intro s14 h14; subst h14
    refine n_put (by decide) ?_
    rw [pt_n (by decide) (by omega)]
    intro s16 h16; subst h16
    intro s17 h17; subst h17
    refine h _ (n + 1) (insT k t0 T) (insT k (l + 1) O) (insT k d0 D) ⟨fun j h1 h2 h3 => ?_, rfl, fun j h1 => if_neg h1⟩ ⟨?_, fun i hi => ⟨?_, ?_, ?_⟩⟩ ?_ hr2 (by omega) (fun i hi hi2 => ?_)
    · simp only [rS, rI, if_neg h1, if_neg h2, if_neg h3]
    · show s.2.2 0 + 1 = nI (n + 1)
      rw [hB.1, nI_1]
    · exact room_ins (fun j hj => (hB.2 j hj).1) k1 i hi
    · exact room_ins (fun j hj => (hB.2 j hj).2.1) k1 i hi
    · exact room_ins (fun j hj => (hB.2 j hj).2.2) k1 i hi
    · intro i hi
      by_cases q1 : i + 1 < k
      · rw [insT_lt q1, insT_lt (by omega)]; exact hS i (by omega)
      · by_cases q2 : i + 1 = k
        · subst q2; rw [insT_eq, insT_lt (by omega)]; exact k2 i (by omega)
        · rw [insT_gt (by omega)]
          by_cases q3 : i = k
          · subst q3
            rw [insT_eq]
            have h1 := k3 (by omega)
            have h2 := hab i (by omega)
            omega
          · rw [show i = (i - 1) + 1 by omega, insT_gt (by omega)]
            exact hS (i - 1) (by omega)
    · refine insT_lt ?_
      rcases Nat.lt_or_ge i k with w | w
      · exact w
      · by_cases e : i = k
        · subst e; have := k3 hi2; omega
        · have := Srt_lt hS (show k < i by omega) hi2
          have := k3 (by omega)
          omega
  rw [hB.1]
  refine ⟨fun q => hnew (fun j hj => ?_), fun q => n_pick (by decide) ?_⟩
  · have := (nI_leI (by omega) (by omega)).mp q
    have := k2 j (by omega)
    omega
  · have hk : k < n := by
      rcases Nat.lt_or_ge k n with w | w
      · exact w
      · exact absurd (nI_le w (by omega)) q
    have hki := hTi k hk
    rw [pk_n (by decide) (by omega), (hB.2 k hk).1]
    refine ⟨fun q2 => hnew (fun j hj e => ?_), fun q2 => n_pick (by decide) ?_⟩
    · have hj2 : k ≤ j := by
        rcases Nat.lt_or_ge j k with w | w
        · have := k2 j w; omega
        · exact w
      have h3 := k3 hk
      by_cases e2 : j = k
      · subst e2; exact q2 (by rw [e])
      · have := Srt_lt hS (show k < j by omega) hj; omega
    · have et : T k = t0 := (nI_eq (by omega) (by omega)).mp q2
      rw [pk_n (by decide) (by omega), (hB.2 k hk).2.1]
      refine ⟨fun q3 => ?_, fun q3 => n_pick (by decide) (n_put (by decide) ?_)⟩
      · exact h s n T O D (Same3_r s) hB hS (rep_skip hR hk et (fun e => q3 (by rw [e]))) (Nat.le_refl n) (fun _ _ _ => rfl)
      · have eo : O k = l + 1 := (nI_eq (by omega) (by omega)).mp q3
        rw [pk_n (by decide) (by omega), (hB.2 k hk).2.2, pt_n (by decide) (by omega)]
        intro s24 h24; subst h24
        refine h _ n T O (updT D k (min d0 (D k))) ⟨fun j h1 h2 h3 => if_neg h3, rfl, fun _ _ => rfl⟩ ⟨hB.1, fun i hi => ⟨(hB.2 i hi).1, (hB.2 i hi).2.1, ?_⟩⟩ hS (rep_min hR hQ hk et eo) (Nat.le_refl n) (fun _ _ _ => rfl)
        show upd (s.1 16) k _ i = _
        unfold upd updT
        by_cases e : i = k
        · rw [if_pos e, if_pos e]
          by_cases w : D k < d0
          · rw [if_pos ((nI_ltI (by omega) (by omega)).mpr w), Nat.min_eq_right (by omega)]
          · rw [if_neg (fun z => w ((nI_ltI (by omega) (by omega)).mp z)), Nat.min_eq_left (by omega)]
        · rw [if_neg e, if_neg e]; exact (hB.2 i hi).2.2
