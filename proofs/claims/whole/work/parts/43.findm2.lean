/-! break points: the reference's whole search -/
theorem n_sortB {n : Nat} {T O D : Nat → Nat} {Q : Nat → Nat → Nat → Prop} {K : RT → Prop} {s y : RT} (hn : n ≤ 40) (hs : SameM s y) (hB : BM y n T O D) (hR : Rep n T O D Q) (hT : ∀ t o d, Q t o d → t ≤ 8000) (h0 : n ≠ 0)
    (h : ∀ s' T' O' D', SameM s s' → BM s' n T' O' D' → Srt n T' → Rep n T' O' D' Q → K s') : ∃ m, lp_X10_findsBreaks_143 K m (1 : Int32) y := by
  have key : ∀ f x y T O D, x + f = n → 0 < x → SameM s y → BM y n T O D → Rep n T O D Q → (∀ i j, i < j → j < x → T i < T j) → lp_X10_findsBreaks_143 K (f + 1) (nI x) y := by
    intro f
    induction f with
    | zero =>
      intro x y T O D hx x0 hs hB hR hS
      refine ⟨fun _ => h y T O D hs hB (fun i hi => hS i (i + 1) (by omega) (by omega)) hR, fun q => ?_⟩
      rw [hB.1] at q
      exact absurd (nI_le (show n ≤ x by omega) (by omega)) q
    | succ f ih =>
      intro x y T O D hx x0 hs hB hR hS
      refine ⟨fun q => ?_, fun _ => ?_⟩
      · rw [hB.1] at q
        have := (nI_leI (by omega) (by omega)).mp q
        omega
      · have inner : ∀ k y T O D, k ≤ x → SameM s y → BM y n T O D → Rep n T O D Q → (∀ i j, i < j → j ≤ x → i ≠ k → j ≠ k → T i < T j) → (∀ j, k < j → j ≤ x → T k < T j) → lp_X10_findsBreaks_153 K (fun v0 v1 => lp_X10_findsBreaks_143 K (f + 1) v0 v1) (k + 1) (nI x) (nI k) y := by
          intro k
          induction k with
          | zero =>
            intro y T O D hk hs hB hR h1 h2
            refine ⟨fun _ x9 hx9 => ?_, fun q => absurd (show nI 0 ≤ 0 by decide) q⟩
            have e9 : x9 = nI (x + 1) := hx9.trans (nI_1 x)
            subst e9
            refine ih (x + 1) y T O D (by omega) (by omega) hs hB hR (fun i j hij hj => ?_)
            by_cases e : i = 0
            · subst e; exact h2 j hij (by omega)
            · exact h1 i j hij (by omega) e (by omega)
          | succ k ih2 =>
            intro y T O D hk hs hB hR h1 h2
            have hTa : ∀ i, i < n → T i ≤ 8000 := fun i hi => hT _ _ _ ((hR.2 _ _ _).mpr ⟨i, hi, rfl, rfl, rfl⟩)
            have ha := hTa k (by omega)
            have hb := hTa (k + 1) (by omega)
            refine ⟨fun q => absurd q (nI_nle (by omega) (by omega)), fun _ => ?_⟩
            rw [p1 (show k + 1 ≠ 0 by omega), show k + 1 - 1 = k from rfl, nI_clamp (by omega), nI_clamp (by omega), (hB.2 k (by omega)).1, (hB.2 (k + 1) (by omega)).1]
            refine ⟨vp_in_nI (by omega) (by decide), vp_in_nI (by omega) (by decide), fun q x11 hx11 => ?_, fun q => ?_⟩
            · have e11 : x11 = nI (x + 1) := hx11.trans (nI_1 x)
              subst e11
              have hle := (nI_leI (by omega) (by omega)).mp q
              have hne := hR.1 k (k + 1) (by omega) (by omega)
              refine ih (x + 1) y T O D (by omega) (by omega) hs hB hR (fun i j hij hj => ?_)
              by_cases e : i = k + 1
              · subst e; exact h2 j hij (by omega)
              · by_cases e2 : j = k + 1
                · subst e2
                  by_cases e3 : i = k
                  · subst e3; omega
                  · have := h1 i k (by omega) (by omega) e (by omega); omega
                · exact h1 i j hij (by omega) e e2
            · have hlt : T (k + 1) < T k := by
                rcases Nat.lt_or_ge (T (k + 1)) (T k) with z | z
                · exact z
                · exact absurd (nI_le z (by omega)) q
              refine n_swaps (by omega) (by omega) ?_
              intro s13 h13; subst h13
              refine n_swaps (by omega) (by omega) ?_
              intro s15 h15; subst h15
              refine n_swaps (by omega) (by omega) ?_
              intro s17 h17; subst h17
              intro x18 hx18
              have e18 : x18 = nI k := hx18.trans (pk_m1 k)
              subst e18
              have sk : ∀ f : Nat → Nat, swT f (k + 1) k = f (k + 1) := fun f => by unfold swT; rw [if_neg (by omega), if_pos (by omega)]
              have sk1 : ∀ f : Nat → Nat, swT f (k + 1) (k + 1) = f k := fun f => by unfold swT; rw [if_pos rfl]; rfl
              have so : ∀ (f : Nat → Nat) j, j ≠ k → j ≠ k + 1 → swT f (k + 1) j = f j := fun f j a b => by unfold swT; rw [if_neg b, if_neg (by omega)]
              refine ih2 _ (swT T (k + 1)) (swT O (k + 1)) (swT D (k + 1)) (by omega) (SameM_t hs ⟨fun j a b c => ?_, rfl, fun _ _ => rfl⟩) ⟨hB.1, fun i hi => ?_⟩ (rep_sw hR (by omega) (by omega)) (fun i j hij hj hi1 hj1 => ?_) (fun j hj hj2 => ?_)
              · simp only [rI, if_neg a, if_neg b, if_neg c]
              · show (if i = k + 1 then y.1 6 (k + 1 - 1) else if i = k + 1 - 1 then y.1 6 (k + 1) else y.1 6 i) = _ ∧ (if i = k + 1 then y.1 7 (k + 1 - 1) else if i = k + 1 - 1 then y.1 7 (k + 1) else y.1 7 i) = _ ∧ (if i = k + 1 then y.1 8 (k + 1 - 1) else if i = k + 1 - 1 then y.1 8 (k + 1) else y.1 8 i) = _
                unfold byM
                by_cases a : i = k + 1
                · subst a
                  rw [if_pos rfl, if_pos rfl, if_pos rfl, sk1, sk1, sk1]
                  exact hB.2 k (by omega)
                · rw [if_neg a, if_neg a, if_neg a]
                  by_cases b : i = k
                  · subst b
                    rw [if_pos (by omega), if_pos (by omega), if_pos (by omega), sk, sk, sk]
                    exact hB.2 (i + 1) (by omega)
                  · rw [if_neg (by omega), if_neg (by omega), if_neg (by omega), so T i b a, so O i b a, so D i b a]
                    exact hB.2 i (by omega)
              · by_cases a : i = k + 1
                · subst a
                  rw [sk1, so T j (by omega) (by omega)]
                  exact h1 k j (by omega) hj (by omega) (by omega)
                · rw [so T i hi1 a]
                  by_cases b : j = k + 1
                  · subst b
                    rw [sk1]
                    exact h1 i k (by omega) (by omega) (by omega) (by omega)
                  · rw [so T j hj1 b]
                    exact h1 i j hij hj a b
              · rw [sk]
                by_cases a : j = k + 1
                · subst a; rw [sk1]; exact hlt
                · rw [so T j (by omega) a]; exact h2 j (by omega) hj2
        refine ⟨x + 1, inner x y T O D (Nat.le_refl x) hs hB hR (fun i j hij hj hi1 hj1 => hS i j hij (by omega)) (fun j hj hj2 => by omega)⟩
  exact ⟨n - 1 + 1, key (n - 1) 1 y T O D (by omega) (by omega) hs hB hR (fun i j hij hj => by omega)⟩
theorem n_findsBreaks {s : RT} {w O3 : Nat} {con par : Nat → Int} {K : RT → Prop} (hw : w < 8) (hL : LagsOK con par) (hc : ∀ d, d < 3 → (s.1 1 (3 + d)).toInt = con d) (hp : ∀ d, d < 3 → (s.1 1 (6 + d)).toInt = par d) (hO : s.1 1 2 = nI O3) (hO3 : O3 ≤ 3) (hu : ∀ (y : RT) (K : Int32 → Prop), y.1 1 = s.1 1 → K (nI w) → wp_X10_used y K)
    (h : ∀ s' n' T' O' D', SameM s s' → BM s' n' T' O' D' → Srt n' T' → Rep n' T' O' D' (QB (Ub w) con par O3) → K s') : wp_X10_findsBreaks s K := by
  have hfew : ∀ l P n' T' O' D', l < 3 → Rep n' T' O' D' (Qm (QB (Ub w) con par l) l (mkP (Ub w) con par (QB (Ub w) con par l) l P)) → n' ≤ 40 := fun l P n' T' O' D' hl r => few r (by omega) (Qm_in (QB_in l))
  have levels : ∀ f l y n T O D, l + f = O3 → SameM s y → BM y n T O D → Rep n T O D (QB (Ub w) con par l) → lp_X10_findsBreaks_34 K (f + 1) (nI w) (nI l) y := by
    intro f
    induction f with
    | zero =>
      intro l y n T O D hl hy hB hR
      have e1 : y.1 1 = s.1 1 := hy.1 1 (by decide) (by decide) (by decide)
      have en : (2 : Int32).toNatClampNeg = 2 := rfl
      have hl3 : l = O3 := by omega
      subst hl3
      have h0 : n ≠ 0 := fun e => by
        have : ∀ l, QB (Ub w) con par l 0 0 0 := fun l => by
          induction l with
          | zero => exact ⟨rfl, rfl, rfl⟩
          | succ l ih => exact Or.inl ih
        obtain ⟨i, a, _⟩ := (hR.2 0 0 0).mp (this l)
        omega
      unfold lp_X10_findsBreaks_34
      rw [e1, en, hO]
      refine ⟨vp_in_nI (show 2 < 812 by omega) (by decide), fun _ => ?_, fun q => absurd (nI_le (Nat.le_refl l) (by omega)) q⟩
      exact n_sortB (few hR hO3 (QB_in l)) hy hB hR (fun t o d z => (QB_in l t o d z).2.1) h0 (fun s' T' O' D' a b c d => h s' n T' O' D' a b c d)
    | succ f ih =>
      intro l y n T O D hl hy hB hR
      have e1 : y.1 1 = s.1 1 := hy.1 1 (by decide) (by decide) (by decide)
      have en : (2 : Int32).toNatClampNeg = 2 := rfl
      unfold lp_X10_findsBreaks_34
      rw [e1, en, hO]
      refine ⟨vp_in_nI (show 2 < 812 by omega) (by decide), fun q => absurd ((nI_leI (by omega) (by omega)).mp q) (by omega), fun _ x19 hx19 => ?_⟩
      rw [hB.1] at hx19
      subst hx19
      have hl3 : l < 3 := by omega
      -- the break points that stood there when the order began: many, at T
      have mid : ∀ g k y n' T' O' D', k + g = n → SameM s y → BM y n' T' O' D' → n ≤ n' → (∀ i, i < n → T' i = T i) →
          Rep n' T' O' D' (Qm (QB (Ub w) con par l) l (mkP (Ub w) con par (QB (Ub w) con par l) l (fun b _ => ∃ i, i < k ∧ T i = b))) → lp_X10_findsBreaks_52 K (fun v0 v1 v2 => lp_X10_findsBreaks_34 K (f + 1) v0 v1 v2) (g + 1) (nI w) (nI l) (nI n) (nI k) y := by
        intro g
        induction g with
        | zero =>
          intro k y n' T' O' D' hk hy hB hnn hTT hR'
          have hn' := hfew l _ _ _ _ _ hl3 hR'
          refine ⟨fun _ x21 hx21 => ?_, fun q => absurd (nI_le (show n ≤ k by omega) (by omega)) q⟩
          have e21 : x21 = nI (l + 1) := hx21.trans (nI_1 l)
          subst e21
          refine ih (l + 1) y n' T' O' D' (by omega) hy hB ?_
          have e : mkP (Ub w) con par (QB (Ub w) con par l) l (fun b _ => ∃ i, i < k ∧ T i = b) = mkP (Ub w) con par (QB (Ub w) con par l) l (fun _ _ => True) := by
            refine mkP_congr (fun b d e hd hq => ⟨fun _ => trivial, fun _ => ?_⟩)
            obtain ⟨i, q1, q2, _⟩ := (hR.2 b l e).mp hq
            exact ⟨i, by omega, q2⟩
          rw [e] at hR'
          exact hR'
        | succ g ih3 =>
          intro k y n' T' O' D' hk hy hB hnn hTT hR'
          have hn' := hfew l _ _ _ _ _ hl3 hR'
          refine ⟨fun q => absurd ((nI_leI (by omega) (by omega)).mp q) (by omega), fun _ => ?_⟩
          have inner : ∀ f2 d y n' T' O' D', d + f2 = 3 → SameM s y → BM y n' T' O' D' → n ≤ n' → (∀ i, i < n → T' i = T i) →
              Rep n' T' O' D' (Qm (QB (Ub w) con par l) l (mkP (Ub w) con par (QB (Ub w) con par l) l (fun b d' => (∃ i, i < k ∧ T i = b) ∨ (b = T k ∧ d' < d)))) → lp_X10_findsBreaks_61 K (fun v0 v1 v2 => lp_X10_findsBreaks_34 K (f + 1) v0 v1 v2) (fun v0 v1 v2 v3 v4 => lp_X10_findsBreaks_52 K (fun v0 v1 v2 => lp_X10_findsBreaks_34 K (f + 1) v0 v1 v2) (g + 1) v0 v1 v2 v3 v4) (f2 + 1) (nI w) (nI l) (nI n) (nI k) (nI d) y := by
            intro f2
            induction f2 with
            | zero =>
              intro d y n' T' O' D' hd hy hB hnn hTT hR'
              have hd3 : d = 3 := by omega
              subst hd3
              refine ⟨fun _ x23 hx23 => ?_, fun q => absurd (show (3 : Int32) ≤ nI 3 by decide) q⟩
              have e23 : x23 = nI (k + 1) := hx23.trans (nI_1 k)
              subst e23
              refine ih3 (k + 1) y n' T' O' D' (by omega) hy hB hnn hTT ?_
              have e : mkP (Ub w) con par (QB (Ub w) con par l) l (fun b d' => (∃ i, i < k ∧ T i = b) ∨ (b = T k ∧ d' < 3)) = mkP (Ub w) con par (QB (Ub w) con par l) l (fun b _ => ∃ i, i < k + 1 ∧ T i = b) := by
                refine mkP_congr (fun b d' e hd' hq => ?_)
                constructor
                · rintro (⟨i, h1, h2⟩ | h1)
                  · exact ⟨i, by omega, h2⟩
                  · exact ⟨k, by omega, h1.1.symm⟩
                · rintro ⟨i, h1, h2⟩
                  by_cases z : i = k
                  · subst z; exact Or.inr ⟨h2.symm, by omega⟩
                  · exact Or.inl ⟨i, by omega, h2⟩
              rw [e] at hR'
              exact hR'
            | succ f2 ih4 =>
              intro d y n' T' O' D' hd hy hB hnn hTT hR'
              have hn' := hfew l _ _ _ _ _ hl3 hR'
              have hd3 : d < 3 := by omega
              have hkn : k < n' := by omega
              have hTi : T' k ≤ 8000 ∧ O' k ≤ 3 ∧ D' k < 3 := by
                obtain ⟨a1, a2, a3, _⟩ := Qm_in (QB_in l) _ _ _ ((hR'.2 _ _ _).mpr ⟨k, hkn, rfl, rfl, rfl⟩)
                exact ⟨a2, by omega, a3⟩
              have hTk := hTT k (by omega)
              have hstep : ∀ y n' T' O' D', SameM s y → BM y n' T' O' D' → n ≤ n' → (∀ i, i < n → T' i = T i) →
                  Rep n' T' O' D' (Qm (QB (Ub w) con par l) l (mkP (Ub w) con par (QB (Ub w) con par l) l (fun b d' => ((∃ i, i < k ∧ T i = b) ∨ (b = T k ∧ d' < d)) ∨ (b = T k ∧ d' = d)))) → lp_X10_findsBreaks_61 K (fun v0 v1 v2 => lp_X10_findsBreaks_34 K (f + 1) v0 v1 v2) (fun v0 v1 v2 v3 v4 => lp_X10_findsBreaks_52 K (fun v0 v1 v2 => lp_X10_findsBreaks_34 K (f + 1) v0 v1 v2) (g + 1) v0 v1 v2 v3 v4) (f2 + 1) (nI w) (nI l) (nI n) (nI k) (nI d + 1) y := by
                intro y n' T' O' D' hy hB hnn hTT hR'
                rw [nI_1]
                refine ih4 (d + 1) y n' T' O' D' (by omega) hy hB hnn hTT ?_
                have e : (fun b d' => ((∃ i, i < k ∧ T i = b) ∨ (b = T k ∧ d' < d)) ∨ (b = T k ∧ d' = d)) = (fun b d' => (∃ i, i < k ∧ T i = b) ∨ (b = T k ∧ d' < d + 1)) := by
                  funext b d'
                  apply propext
                  constructor
                  · rintro ((h1 | h1) | h1)
                    · exact Or.inl h1
                    · exact Or.inr ⟨h1.1, by omega⟩
                    · exact Or.inr ⟨h1.1, by omega⟩
                  · rintro (h1 | h1)
                    · exact Or.inl (Or.inl h1)
                    · by_cases z : d' = d
                      · exact Or.inr ⟨h1.1, z⟩
                      · exact Or.inl (Or.inr ⟨h1.1, by omega⟩)
                rw [e] at hR'
                exact hR'
              have hsame : (∀ e, ¬ (QB (Ub w) con par l (T k) l e ∧ Ub w d ∧ madeN (con d) (par d) (T k) ≠ 0)) → lp_X10_findsBreaks_61 K (fun v0 v1 v2 => lp_X10_findsBreaks_34 K (f + 1) v0 v1 v2) (fun v0 v1 v2 v3 v4 => lp_X10_findsBreaks_52 K (fun v0 v1 v2 => lp_X10_findsBreaks_34 K (f + 1) v0 v1 v2) (g + 1) v0 v1 v2 v3 v4) (f2 + 1) (nI w) (nI l) (nI n) (nI k) (nI d + 1) y := by
                intro hnot
                refine hstep y n' T' O' D' hy hB hnn hTT ?_
                rw [mkP_not hnot]
                exact hR'
              have hOk : ∀ e, QB (Ub w) con par l (T k) l e → O' k = l := fun e hq => by
                obtain ⟨j, q1, q2, q3, _⟩ := (hR'.2 (T k) l e).mp (Or.inl hq)
                have := Rep_inj hR' q1 hkn (by rw [q2, hTk])
                subst this; exact q3
              refine ⟨fun q => absurd ((nI_leI (a := 3) (by decide) (by omega)).mp q) (by omega), fun _ => ?_⟩
              rw [nI_clamp (by omega), (hB.2 k hkn).2.1, (hB.2 k hkn).1]
              refine ⟨vp_in_nI (by omega) (by decide), fun q2 => ⟨fun _ x26 hx26 => ?_, fun q => absurd (show (-1 : Int32) < 0 by decide) q⟩, fun q2 => ⟨fun q3 => ⟨fun _ x26 hx26 => ?_, fun q => absurd (show (-1 : Int32) < 0 by decide) q⟩, fun q3 => ⟨vp_in_nI (by omega) (by decide), ?_⟩⟩⟩
              · subst hx26
                exact hsame (fun e hn3 => q2 (by rw [hOk e hn3.1]))
              · subst hx26
                rw [bit_w w hw d hd3] at q3
                exact hsame (fun e hn3 => q3 (by rw [show w / 2 ^ d % 2 = 1 from hn3.2.1]; rfl))
              · rw [bit_w w hw d hd3] at q3
                have hU : Ub w d := by
                  show w / 2 ^ d % 2 = 1
                  exact (nI_eq (b := 1) (by omega) (by decide)).mp q3
                have eo : O' k = l := (nI_eq (by omega) (by omega)).mp q2
                have hq : QB (Ub w) con par l (T k) l (D' k) := by
                  rcases (hR'.2 _ _ _).mpr ⟨k, hkn, rfl, rfl, rfl⟩ with z | z
                  · rw [eo, hTk] at z; exact z
                  · have := z.2.1; omega
                have e1 : y.1 1 = s.1 1 := hy.1 1 (by decide) (by decide) (by decide)
                refine n_madeFrom hL (fun d hd => by rw [e1]; exact hc d hd) (fun d hd => by rw [e1]; exact hp d hd) hd3 hTi.1 ?_
                rw [hTk]
                rw [hTk] at hTi
                by_cases m0 : madeN (con d) (par d) (T k) = 0
                · rw [if_pos m0]
                  refine ⟨fun _ x26 hx26 => ?_, fun q => absurd (show (-1 : Int32) < 0 by decide) q⟩
                  subst hx26
                  exact hsame (fun e hn3 => hn3.2.2 m0)
                · rw [if_neg m0]
                  have hr := made_range (c := con d) (s := par d) hTi.1 m0
                  refine ⟨fun q => absurd q (nI_pos (by omega)), fun _ => ?_⟩
                  have hadd := mkP_add (P := fun b d' => (∃ i, i < k ∧ T i = b) ∨ (b = T k ∧ d' < d)) hq hU hd3 m0
                  rw [nI_1]
                  refine n_makes hB hR' (fun t o d' => QB_le) hl3 hd3 (fun t o d' z => by obtain ⟨a1, a2, a3, a4, _⟩ := Qm_in (QB_in l) _ _ _ z; exact ⟨a2, by omega, a3, a4⟩) (by omega) hr.2 hn' (fun s' n2 T2 O2 D2 s1 s2 s3 s4 s5 x28 hx28 => ?_)
                  subst hx28
                  rw [← hadd] at s3
                  exact hstep s' n2 T2 O2 D2 (SameM_t hy s1) s2 (by omega) (fun i hi => (s5 i (by omega)).trans (hTT i hi)) s3
          refine ⟨4, inner 3 0 y n' T' O' D' rfl hy hB hnn hTT ?_⟩
          have e : (fun b d' => (∃ i, i < k ∧ T i = b) ∨ (b = T k ∧ d' < 0)) = (fun b (_ : Nat) => ∃ i, i < k ∧ T i = b) := by
            funext b d'
            apply propext
            exact ⟨fun z => z.elim id (fun z => by omega), Or.inl⟩
          rw [e]; exact hR'
      refine ⟨n + 1, mid n 0 y n T O D (by omega) hy hB (Nat.le_refl n) (fun _ _ => rfl) ?_⟩
      have e : (fun (b : Nat) (_ : Nat) => ∃ i, i < 0 ∧ T i = b) = (fun _ _ => False) := by
        funext b d'
        apply propext
        exact ⟨fun ⟨i, z, _⟩ => by omega, False.elim⟩
      rw [e, Qm_none]; exact hR
  refine ⟨vp_in_nI (show 0 < 64 by omega) (by decide), fun s1 h1 => ⟨vp_in_nI (show 0 < 64 by omega) (by decide), fun s2 h2 => ⟨vp_in_nI (show 0 < 64 by omega) (by decide), fun s3 h3 s4 h4 => ?_⟩⟩⟩
  subst h1; subst h2; subst h3; subst h4
  refine hu _ _ rfl ⟨O3 + 1, levels O3 0 _ 1 (fun _ => 0) (fun _ => 0) (fun _ => 0) (by omega) ⟨fun j h1 h2 h3 => ?_, rfl, fun k hk => if_neg hk⟩ ⟨rfl, fun i hi => ?_⟩ ⟨fun i j h1 h2 => by omega, fun t o d => ?_⟩⟩
  · simp only [rS, rI, if_neg h1, if_neg h2, if_neg h3]
  · rw [show i = 0 by omega]; exact ⟨rfl, rfl, rfl⟩
  · constructor
    · rintro ⟨a, b, c⟩; exact ⟨0, by omega, a.symm, b.symm, c.symm⟩
    · rintro ⟨i, a, b, c, d⟩; exact ⟨b.symm, c.symm, d.symm⟩
