/-! break points: the class's whole search -/
def Ub (w : Nat) : Nat → Prop := fun d => w / 2 ^ d % 2 = 1
theorem bit_w : ∀ w, w < 8 → ∀ d, d < 3 → ((nI w >>> (nI d &&& 31)) &&& (1 : Int32)) = nI (w / 2 ^ d % 2) := by decide +kernel
theorem n_hasBit {w d : Nat} {K : Int32 → Prop} (hw : w < 8) (hd : d < 3) (h0 : ¬ Ub w d → K 0) (h1 : Ub w d → K 1) : wp_X9_hasBit (nI w) (nI d) K := by
  unfold wp_X9_hasBit
  unfold Ub at h0 h1
  rw [bit_w w hw d hd]
  have hb : w / 2 ^ d % 2 = 0 ∨ w / 2 ^ d % 2 = 1 := by omega
  refine ⟨fun q => h0 ?_, fun q => h1 ?_⟩
  · rcases hb with e | e
    · omega
    · rw [e] at q; exact absurd q (by decide)
  · rcases hb with e | e
    · rw [e] at q; exact absurd rfl q
    · exact e
theorem QB_le {U : Nat → Prop} {c p : Nat → Int} {l t o d : Nat} (h : QB U c p l t o d) : o ≤ l := (QB_in l t o d h).1
theorem n_addNext {s : RT} {w n l : Nat} {con par : Nat → Int} {T O D : Nat → Nat} {K : RT → Prop} (hw : w < 8) (hL : LagsOK con par) (hc : ∀ d, d < 3 → (s.1 6 d).toInt = con d) (hp : ∀ d, d < 3 → (s.1 7 d).toInt = par d) (hl : l < 3)
    (hB : BX s n T O D) (hS : Srt n T) (hR : Rep n T O D (QB (Ub w) con par l))
    (h : ∀ s' n' T' O' D', Same3 s s' → BX s' n' T' O' D' → Srt n' T' → Rep n' T' O' D' (QB (Ub w) con par (l + 1)) → K s') : wp_X0_addNext s (nI w) (nI l) K := by
  have hfew : ∀ P n' T' O' D', Rep n' T' O' D' (Qm (QB (Ub w) con par l) l (mkP (Ub w) con par (QB (Ub w) con par l) l P)) → n' ≤ 40 := fun P n' T' O' D' r => few r (by omega) (Qm_in (QB_in l))
  -- what is done: the break points ahead of the place k
  have key : ∀ m k y n T O D, Same3 s y → BX y n T O D → Srt n T → k ≤ n → 42 ≤ k + m →
      Rep n T O D (Qm (QB (Ub w) con par l) l (mkP (Ub w) con par (QB (Ub w) con par l) l (fun b _ => ∃ i, i < k ∧ T i = b))) → lp_X0_addNext_8 (nI w) (nI l) K m (nI k) y := by
    intro m
    induction m with
    | zero =>
      intro k y n T O D hy hB hS hk hm hR
      have := hfew _ _ _ _ _ hR
      omega
    | succ m ih =>
      intro k y n T O D hy hB hS hk hm hR
      have hn := hfew _ _ _ _ _ hR
      have hdone : n ≤ k → K y := fun q => by
        refine h y n T O D hy hB hS ?_
        have e : mkP (Ub w) con par (QB (Ub w) con par l) l (fun b _ => ∃ i, i < k ∧ T i = b) = mkP (Ub w) con par (QB (Ub w) con par l) l (fun _ _ => True) := by
          refine mkP_congr (fun b d e hd hq => ⟨fun _ => trivial, fun _ => ?_⟩)
          obtain ⟨i, q1, q2, _⟩ := (hR.2 b l e).mp (Or.inl hq)
          exact ⟨i, by omega, q2⟩
        rw [e] at hR
        exact hR
      refine ⟨fun q => hdone ?_, fun _ => ⟨fun q => hdone ?_, fun q => ?_⟩⟩
      · have := (nI_leI (a := 40) (by decide) (by omega)).mp q
        omega
      · rw [hB.1] at q
        exact (nI_leI (by omega) (by omega)).mp q
      · rw [hB.1] at q
        have hkn : k < n := by
          rcases Nat.lt_or_ge k n with z | z
          · exact z
          · exact absurd (nI_le z (by omega)) q
        -- the delays, one after another
        have inner : ∀ f d y n T O D, Same3 s y → BX y n T O D → Srt n T → k < n → 4 ≤ d + f → d ≤ 3 →
            Rep n T O D (Qm (QB (Ub w) con par l) l (mkP (Ub w) con par (QB (Ub w) con par l) l (fun b d' => (∃ i, i < k ∧ T i = b) ∨ (b = T k ∧ d' < d)))) → lp_X0_addNext_27 (nI w) (nI l) K (fun v0 v1 => lp_X0_addNext_8 (nI w) (nI l) K m v0 v1) f (nI k) (nI d) y := by
          intro f
          induction f with
          | zero => intro d y n T O D hy hB hS hkn hf hd hR; omega
          | succ f ih2 =>
            intro d y n T O D hy hB hS hkn hf hd hR
            have hn := hfew _ _ _ _ _ hR
            have hTi : ∀ i, i < n → T i ≤ 8000 ∧ O i ≤ 3 ∧ D i < 3 := fun i hi => by
              obtain ⟨a1, a2, a3, _⟩ := Qm_in (QB_in l) _ _ _ ((hR.2 _ _ _).mpr ⟨i, hi, rfl, rfl, rfl⟩)
              exact ⟨a2, by omega, a3⟩
            have hk3 := hTi k hkn
            have hstep : ∀ y n T' O' D', Same3 s y → BX y n T' O' D' → Srt n T' → k < n → (∀ i, i ≤ k → T' i = T i) → d < 3 →
                Rep n T' O' D' (Qm (QB (Ub w) con par l) l (mkP (Ub w) con par (QB (Ub w) con par l) l (fun b d' => ((∃ i, i < k ∧ T i = b) ∨ (b = T k ∧ d' < d)) ∨ (b = T k ∧ d' = d)))) → lp_X0_addNext_27 (nI w) (nI l) K (fun v0 v1 => lp_X0_addNext_8 (nI w) (nI l) K m v0 v1) f (nI k) (nI d + 1) y := by
              intro y n T' O' D' hy hB hS hkn he hd3 hR
              rw [nI_1]
              refine ih2 (d + 1) y n T' O' D' hy hB hS hkn (by omega) (by omega) ?_
              have e : (fun b d' => ((∃ i, i < k ∧ T i = b) ∨ (b = T k ∧ d' < d)) ∨ (b = T k ∧ d' = d)) = (fun b d' => (∃ i, i < k ∧ T' i = b) ∨ (b = T' k ∧ d' < d + 1)) := by
                funext b d'
                apply propext
                rw [he k (Nat.le_refl k)]
                constructor
                · rintro ((⟨i, h1, h2⟩ | h1) | h1)
                  · exact Or.inl ⟨i, h1, by rw [he i (by omega)]; exact h2⟩
                  · exact Or.inr ⟨h1.1, by omega⟩
                  · exact Or.inr ⟨h1.1, by omega⟩
                · rintro (⟨i, h1, h2⟩ | h1)
                  · exact Or.inl (Or.inl ⟨i, h1, by rw [← he i (by omega)]; exact h2⟩)
                  · by_cases z : d' = d
                    · exact Or.inr ⟨h1.1, z⟩
                    · exact Or.inl (Or.inr ⟨h1.1, by omega⟩)
              rw [e] at hR
              exact hR
            have hsame : ∀ x7 : Int32, x7 = nI d + 1 → d < 3 → (∀ e, ¬ (QB (Ub w) con par l (T k) l e ∧ Ub w d ∧ madeN (con d) (par d) (T k) ≠ 0)) → lp_X0_addNext_27 (nI w) (nI l) K (fun v0 v1 => lp_X0_addNext_8 (nI w) (nI l) K m v0 v1) f (nI k) x7 y := by
              intro x7 hx7 hd3 hnot
              subst hx7
              refine hstep y n T O D hy hB hS hkn (fun _ _ => rfl) hd3 ?_
              rw [mkP_not hnot]
              exact hR
            refine ⟨fun q x4 hx4 => ?_, fun q => ?_⟩
            · have hd3 : d = 3 := by have := (nI_leI (a := 3) (by decide) (by omega)).mp q; omega
              have e4 : x4 = nI (k + 1) := hx4.trans (nI_1 k)
              subst e4
              refine ih (k + 1) y n T O D hy hB hS (by omega) (by omega) ?_
              have e : mkP (Ub w) con par (QB (Ub w) con par l) l (fun b d' => (∃ i, i < k ∧ T i = b) ∨ (b = T k ∧ d' < d)) = mkP (Ub w) con par (QB (Ub w) con par l) l (fun b _ => ∃ i, i < k + 1 ∧ T i = b) := by
                refine mkP_congr (fun b d' e hd' hq => ?_)
                constructor
                · rintro (⟨i, h1, h2⟩ | h1)
                  · exact ⟨i, by omega, h2⟩
                  · exact ⟨k, by omega, h1.1.symm⟩
                · rintro ⟨i, h1, h2⟩
                  by_cases z : i = k
                  · subst z; exact Or.inr ⟨h2.symm, by omega⟩
                  · exact Or.inl ⟨i, by omega, h2⟩
              rw [e] at hR
              exact hR
            · have hd3 : d < 3 := by
                rcases Nat.lt_or_ge d 3 with z | z
                · exact z
                · exact absurd (nI_le (a := 3) z (by omega)) q
              refine n_pick (by decide) ?_
              rw [pk_n (by decide) (by omega), (hB.2 k hkn).2.1]
              have hOk : ∀ e, QB (Ub w) con par l (T k) l e → O k = l := fun e hq => by
                obtain ⟨j, q1, q2, q3, _⟩ := (hR.2 (T k) l e).mp (Or.inl hq)
                have := Rep_inj hR q1 hkn q2
                subst this; exact q3
              refine ⟨fun q2 x7 hx7 => hsame x7 hx7 hd3 (fun e hn3 => q2 (by rw [hOk e hn3.1])), fun q2 => n_hasBit hw hd3 (fun hu => ⟨fun _ x10 hx10 => hsame x10 hx10 hd3 (fun e hn3 => hu hn3.2.1), fun z => absurd rfl z⟩) (fun hu => ⟨fun z => absurd z (by decide), fun _ => n_pick (by decide) ?_⟩)⟩
              have eo : O k = l := (nI_eq (by omega) (by omega)).mp q2
              have hq : QB (Ub w) con par l (T k) l (D k) := by
                rcases (hR.2 _ _ _).mpr ⟨k, hkn, rfl, rfl, rfl⟩ with z | z
                · rw [eo] at z; exact z
                · have := z.2.1; omega
              rw [pk_n (by decide) (by omega), (hB.2 k hkn).1]
              refine n_reach hL (fun d hd => by rw [hy.1 6 (by decide) (by decide) (by decide)]; exact hc d hd) (fun d hd => by rw [hy.1 7 (by decide) (by decide) (by decide)]; exact hp d hd) hd3 hk3.1 ?_
              by_cases m0 : madeN (con d) (par d) (T k) = 0
              · rw [m0]
                refine ⟨fun z => absurd z (by decide), fun _ x14 hx14 => hsame x14 hx14 hd3 (fun e hn3 => hn3.2.2 m0)⟩
              · have hr := made_range (c := con d) (s := par d) hk3.1 m0
                have hadd := mkP_add (P := fun b d' => (∃ i, i < k ∧ T i = b) ∨ (b = T k ∧ d' < d)) hq hu hd3 m0
                rw [nI_1]
                refine n_addX hB hS hR (fun t o d' => QB_le) hl hd3 (fun t o d' z => by obtain ⟨a1, a2, a3, _⟩ := Qm_in (QB_in l) _ _ _ z; exact ⟨a2, by omega, a3⟩) (by omega) hr.2 hn (fun n' T' O' D' z => by rw [← hadd] at z; exact hfew _ _ _ _ _ z) (fun s' n' T' O' D' s1 s2 s3 s4 s5 s6 x14 hx14 => ?_)
                subst hx14
                rw [← hadd] at s4
                refine hstep s' n' T' O' D' (Same3_t hy s1) s2 s3 (by omega) (fun i hi => s6 i ?_ (by omega)) hd3 s4
                by_cases z : i = k
                · subst z; omega
                · have := Srt_lt hS (show i < k by omega) hkn; omega
        refine ⟨4, inner 4 0 y n T O D hy hB hS hkn (by omega) (by omega) ?_⟩
        have e : (fun b d' => (∃ i, i < k ∧ T i = b) ∨ (b = T k ∧ d' < 0)) = (fun b (_ : Nat) => ∃ i, i < k ∧ T i = b) := by
          funext b d'
          apply propext
          exact ⟨fun z => z.elim id (fun z => by omega), Or.inl⟩
        rw [e]; exact hR
  refine ⟨42, key 42 0 s n T O D (Same3_r s) hB hS (by omega) (by omega) ?_⟩
  have e : (fun (b : Nat) (_ : Nat) => ∃ i, i < 0 ∧ T i = b) = (fun _ _ => False) := by
    funext b d'
    apply propext
    exact ⟨fun ⟨i, z, _⟩ => by omega, False.elim⟩
  rw [e, Qm_none]; exact hR
theorem n_find {s : RT} {w O3 : Nat} {con par : Nat → Int} {K : RT → Prop} (hw : w < 8) (hL : LagsOK con par) (hc : ∀ d, d < 3 → (s.1 6 d).toInt = con d) (hp : ∀ d, d < 3 → (s.1 7 d).toInt = par d) (hO : O3 ≤ 3) (h0 : s.1 14 0 = nI 0 ∧ s.1 15 0 = nI 0 ∧ s.1 16 0 = nI 0)
    (h : ∀ s' n' T' O' D', Same3 s s' → BX s' n' T' O' D' → Srt n' T' → Rep n' T' O' D' (QB (Ub w) con par O3) → K s') : wp_X0_find s (nI w) (nI O3) K := by
  have key : ∀ f l y n T O D, Same3 s y → BX y n T O D → Srt n T → l + f = O3 → Rep n T O D (QB (Ub w) con par l) → lp_X0_find_8 (nI w) (nI O3) K (f + 1) (nI l) y := by
    intro f
    induction f with
    | zero =>
      intro l y n T O D hy hB hS hl hR
      refine ⟨fun _ => ?_, fun q => absurd (nI_le (show O3 ≤ l by omega) (by omega)) q⟩
      rw [show l = O3 by omega] at hR
      exact h y n T O D hy hB hS hR
    | succ f ih =>
      intro l y n T O D hy hB hS hl hR
      refine ⟨fun q => absurd ((nI_leI (by omega) (by omega)).mp q) (by omega), fun _ => ?_⟩
      refine n_addNext hw hL (fun d hd => by rw [hy.1 6 (by decide) (by decide) (by decide)]; exact hc d hd) (fun d hd => by rw [hy.1 7 (by decide) (by decide) (by decide)]; exact hp d hd) (by omega) hB hS hR (fun s' n' T' O' D' s1 s2 s3 s4 x4 hx4 => ?_)
      have e4 : x4 = nI (l + 1) := hx4.trans (nI_1 l)
      subst e4
      exact ih (l + 1) s' n' T' O' D' (Same3_t hy s1) s2 s3 (by omega) s4
  intro s1 hs1
  subst hs1
  refine ⟨O3 + 1, key O3 0 _ 1 (fun _ => 0) (fun _ => 0) (fun _ => 0) ⟨fun _ _ _ _ => rfl, rfl, fun k hk => if_neg hk⟩ ⟨rfl, fun i hi => ?_⟩ (fun i hi => by omega) (by omega) ⟨fun i j h1 h2 => by omega, fun t o d => ?_⟩⟩
  · rw [show i = 0 by omega]; exact h0
  · constructor
    · rintro ⟨a, b, c⟩; exact ⟨0, by omega, a.symm, b.symm, c.symm⟩
    · rintro ⟨i, a, b, c, d⟩; exact ⟨b.symm, c.symm, d.symm⟩
