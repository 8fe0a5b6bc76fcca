/-! break points: the reference's search -/
def SameM (s s' : RT) : Prop := (∀ j, j ≠ 6 → j ≠ 7 → j ≠ 8 → s'.1 j = s.1 j) ∧ s'.2.1 = s.2.1 ∧ ∀ k, k ≠ 10 → s'.2.2 k = s.2.2 k
theorem SameM_r (s : RT) : SameM s s := ⟨fun _ _ _ _ => rfl, rfl, fun _ _ => rfl⟩
theorem SameM_t {a b c : RT} (h : SameM a b) (k : SameM b c) : SameM a c := ⟨fun j h1 h2 h3 => (k.1 j h1 h2 h3).trans (h.1 j h1 h2 h3), k.2.1.trans h.2.1, fun j h1 => (k.2.2 j h1).trans (h.2.2 j h1)⟩
def byM (T D : Nat → Nat) (i : Nat) : Int32 := if T i = 0 then -2000000004 else nI (D i)
def BM (s : RT) (n : Nat) (T O D : Nat → Nat) : Prop := s.2.2 10 = nI n ∧ ∀ i, i < n → s.1 6 i = nI (T i) ∧ s.1 7 i = nI (O i) ∧ s.1 8 i = byM T D i
theorem n_breakWith {s : RT} {n t0 : Nat} {T O D : Nat → Nat} {K : Int32 → Prop} (hB : BM s n T O D) (hn : n ≤ 40) (hT : ∀ i, i < n → T i ≤ 8000) (ht : t0 ≤ 8000) (h1 : (∀ i, i < n → T i ≠ t0) → K (-1)) (h2 : ∀ i, i < n → T i = t0 → K (nI i)) : wp_X10_breakWith s (nI t0) K := by
  have key : ∀ m k, k + m = n → (∀ i, i < k → T i ≠ t0) → lp_X10_breakWith_2 s (nI t0) K (m + 1) (nI k) := by
    intro m
    induction m with
    | zero =>
      intro k a b
      refine ⟨fun _ => h1 (fun i hi => b i (by omega)), fun q => ?_⟩
      rw [hB.1] at q
      exact absurd (nI_le (show n ≤ k by omega) (by omega)) q
    | succ m ih =>
      intro k a b
      refine ⟨fun q => ?_, fun _ => ?_⟩
      · rw [hB.1] at q
        have := (nI_leI (by omega) (by omega)).mp q
        omega
      · have hk := hT k (by omega)
        rw [nI_clamp (by omega), (hB.2 k (by omega)).1]
        refine ⟨vp_in_nI (by omega) (by decide), fun q x3 hx3 => ?_, fun q => h2 k (by omega) ((nI_eq (by omega) (by omega)).mp q)⟩
        have e3 : x3 = nI (k + 1) := hx3.trans (nI_1 k)
        subst e3
        refine ih (k + 1) (by omega) (fun i hi => ?_)
        by_cases e : i = k
        · subst e; exact fun z => q (by rw [z])
        · exact b i (by omega)
  exact ⟨n + 1, key n 0 (by omega) (fun i hi => by omega)⟩
theorem n_makes {s : RT} {n l t0 d0 : Nat} {T O D : Nat → Nat} {Q : Nat → Nat → Nat → Prop} {mk : Nat → Nat → Prop} {K : RT → Prop} (hB : BM s n T O D) (hR : Rep n T O D (Qm Q l mk)) (hQ : ∀ t o d, Q t o d → o ≤ l) (hl : l < 3) (hd : d0 < 3)
    (hin : ∀ t o d, Qm Q l mk t o d → t ≤ 8000 ∧ o ≤ 3 ∧ d < 3 ∧ (t = 0 ↔ o = 0)) (ht : 0 < t0) (ht2 : t0 ≤ 8000) (hn : n ≤ 40)
    (h : ∀ s' n' T' O' D', SameM s s' → BM s' n' T' O' D' → Rep n' T' O' D' (Qm Q l (addmk mk t0 d0)) → n ≤ n' → (∀ i, i < n → T' i = T i) → K s') : wp_X10_makes s (nI t0) (nI (l + 1)) (nI d0) K := by
  have hTi : ∀ i, i < n → T i ≤ 8000 ∧ O i ≤ 3 ∧ D i < 3 ∧ (T i = 0 ↔ O i = 0) := fun i hi => hin _ _ _ ((hR.2 _ _ _).mpr ⟨i, hi, rfl, rfl, rfl⟩)
  refine n_breakWith hB hn (fun i hi => (hTi i hi).1) ht2 (fun hab => ⟨fun q => absurd q (by decide), fun _ => ?_⟩) (fun i hi et => ⟨fun _ => ?_, fun q => absurd (nI_pos' (show i < 2 ^ 31 by omega)) q⟩)
  · rw [hB.1, nI_clamp (by omega)]
    refine ⟨vp_in_nI (by omega) (by decide), fun s6 h6 => ?_⟩
    subst h6
    rw [show (rI s 6 (upd (s.1 6) n (nI t0))).2.2 10 = nI n from hB.1, nI_clamp (by omega)]
    refine ⟨vp_in_nI (by omega) (by decide), fun s7 h7 => ?_⟩
    subst h7
    rw [show (rI (rI s 6 (upd (s.1 6) n (nI t0))) 7 (upd ((rI s 6 (upd (s.1 6) n (nI t0))).1 7) n (nI (l + 1)))).2.2 10 = nI n from hB.1, nI_clamp (by omega)]
    refine ⟨vp_in_nI (by omega) (by decide), fun s8 h8 => ?_⟩
    subst h8
    intro s9 h9
    subst h9
    have hr2 := rep_ins (d0 := d0) hR (Nat.le_refl n) hab
    refine h _ (n + 1) (insT n t0 T) (insT n (l + 1) O) (insT n d0 D) ⟨fun j h1 h2 h3 => ?_, rfl, fun j h1 => if_neg h1⟩ ⟨?_, fun i hi => ?_⟩ hr2 (by omega) (fun i hi => insT_lt hi)
    · simp only [rS, rI, if_neg h1, if_neg h2, if_neg h3]
    · show s.2.2 10 + 1 = nI (n + 1)
      rw [hB.1, nI_1]
    · show upd (s.1 6) n (nI t0) i = _ ∧ upd (s.1 7) n (nI (l + 1)) i = _ ∧ upd (s.1 8) n (nI d0) i = _
      unfold upd byM
      by_cases e : i = n
      · subst e
        rw [if_pos rfl, if_pos rfl, if_pos rfl, insT_eq, insT_eq, insT_eq, if_neg (by omega)]
        exact ⟨rfl, rfl, rfl⟩
      · rw [if_neg e, if_neg e, if_neg e, insT_lt (by omega), insT_lt (by omega), insT_lt (by omega)]
        exact hB.2 i (by omega)
  · have hki := hTi i hi
    rw [nI_clamp (by omega), (hB.2 i hi).2.1]
    refine ⟨vp_in_nI (by omega) (by decide), fun q3 => ?_, fun q3 => ⟨vp_in_nI (by omega) (by decide), ?_⟩⟩
    · exact h s n T O D (SameM_r s) hB (rep_skip hR hi et (fun e => q3 (by rw [e]))) (Nat.le_refl n) (fun _ _ => rfl)
    · have eo : O i = l + 1 := (nI_eq (by omega) (by omega)).mp q3
      have hr := rep_min (d0 := d0) hR hQ hi et eo
      rw [(hB.2 i hi).2.2]
      unfold byM
      rw [if_neg (by omega)]
      refine ⟨fun w => ?_, fun w => ⟨vp_in_nI (by omega) (by decide), fun s5 h5 => ?_⟩⟩
      · have hle := (nI_leI (by omega) (by omega)).mp w
        have e : updT D i (min d0 (D i)) = D := by
          funext j
          unfold updT
          by_cases z : j = i
          · rw [if_pos z, z]; omega
          · rw [if_neg z]
        rw [e] at hr
        exact h s n T O D (SameM_r s) hB hr (Nat.le_refl n) (fun _ _ => rfl)
      · subst h5
        have hlt : d0 < D i := by
          rcases Nat.lt_or_ge d0 (D i) with z | z
          · exact z
          · exact absurd (nI_le z (by omega)) w
        refine h _ n T O _ ⟨fun j h1 h2 h3 => if_neg h3, rfl, fun _ _ => rfl⟩ ⟨hB.1, fun j hj => ⟨(hB.2 j hj).1, (hB.2 j hj).2.1, ?_⟩⟩ hr (Nat.le_refl n) (fun _ _ => rfl)
        show upd (s.1 8) i (nI d0) j = _
        unfold upd byM updT
        by_cases e : j = i
        · rw [if_pos e, if_pos e, e, if_neg (by omega), Nat.min_eq_left (by omega)]
        · rw [if_neg e, if_neg e]; exact (hB.2 j hj).2.2
/-! sorting -/
def swT (f : Nat → Nat) (k : Nat) : Nat → Nat := fun j => if j = k then f (k - 1) else if j = k - 1 then f k else f j
theorem rep_sw {n k : Nat} {T O D : Nat → Nat} {Q : Nat → Nat → Nat → Prop} (h : Rep n T O D Q) (hk : k < n) (h0 : 0 < k) : Rep n (swT T k) (swT O k) (swT D k) Q := by
  have hj : ∀ j, ∃ i, (j < n → i < n) ∧ (i < n → j < n) ∧ (∀ f : Nat → Nat, swT f k j = f i) ∧ (i = if j = k then k - 1 else if j = k - 1 then k else j) := by
    intro j
    refine ⟨if j = k then k - 1 else if j = k - 1 then k else j, ?_, ?_, fun f => ?_, rfl⟩
    · split
      · omega
      · split <;> omega
    · split
      · omega
      · split <;> omega
    · unfold swT
      by_cases a : j = k
      · rw [if_pos a, if_pos a]
      · rw [if_neg a, if_neg a]
        by_cases b : j = k - 1
        · rw [if_pos b, if_pos b]
        · rw [if_neg b, if_neg b]
  refine ⟨fun a b hab hb e => ?_, fun t o d => ?_⟩
  · obtain ⟨i1, p1', p2, p3, p4⟩ := hj a
    obtain ⟨i2, q1, q2, q3, q4⟩ := hj b
    rw [p3, q3] at e
    have := Rep_inj h (p1' (by omega)) (q1 hb) e
    rw [p4, q4] at this
    by_cases a1 : a = k
    · rw [if_pos a1, if_neg (show ¬ b = k by omega), if_neg (show ¬ b = k - 1 by omega)] at this; omega
    · rw [if_neg a1] at this
      by_cases a2 : a = k - 1
      · rw [if_pos a2] at this
        by_cases b1 : b = k
        · rw [if_pos b1] at this; omega
        · rw [if_neg b1, if_neg (show ¬ b = k - 1 by omega)] at this; omega
      · rw [if_neg a2] at this
        by_cases b1 : b = k
        · rw [if_pos b1] at this; omega
        · rw [if_neg b1] at this
          by_cases b2 : b = k - 1
          · rw [if_pos b2] at this; omega
          · rw [if_neg b2] at this; omega
  · rw [h.2 t o d]
    constructor
    · rintro ⟨i, a, b, c, e⟩
      obtain ⟨i1, p1', p2, p3, p4⟩ := hj (if i = k then k - 1 else if i = k - 1 then k else i)
      have hi1 : i1 = i := by
        rw [p4]
        by_cases a1 : i = k
        · rw [if_pos a1, if_neg (by omega), if_pos rfl, a1]
        · rw [if_neg a1]
          by_cases a2 : i = k - 1
          · rw [if_pos a2, if_pos rfl, a2]
          · rw [if_neg a2, if_neg a1, if_neg a2]
      rw [hi1] at p2 p3
      exact ⟨_, p2 a, by rw [p3]; exact b, by rw [p3]; exact c, by rw [p3]; exact e⟩
    · rintro ⟨j, a, b, c, e⟩
      obtain ⟨i1, p1', p2, p3, p4⟩ := hj j
      rw [p3] at b c e
      exact ⟨i1, p1' a, b, c, e⟩
theorem n_swaps {f : Nat → Int32} {k : Nat} {K : (Nat → Int32) → Prop} (hk : k < 64) (h0 : 0 < k) (h : K (fun j => if j = k then f (k - 1) else if j = k - 1 then f k else f j)) : wp_X10_swaps 64 f (nI k) K := by
  unfold wp_X10_swaps
  rw [p1 (by omega), nI_clamp (by omega), nI_clamp (by omega)]
  refine ⟨vp_in_nI hk (by decide), fun x1 hx1 => ⟨vp_in_nI (by omega) (by decide), vp_in_nI hk (by decide), fun f2 h2 => ⟨vp_in_nI (by omega) (by decide), fun f3 h3 => ?_⟩⟩⟩
  subst hx1; subst h2; subst h3
  have e : upd (upd f k (f (k - 1))) (k - 1) (f k) = (fun j => if j = k then f (k - 1) else if j = k - 1 then f k else f j) := by
    funext j
    unfold upd
    by_cases a : j = k
    · rw [if_neg (by omega), if_pos a, if_pos a]
    · rw [if_neg a, if_neg a]
  rw [e]; exact h
