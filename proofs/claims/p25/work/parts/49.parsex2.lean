/-! the class reads units, terms, sums: the program itself -/
def RSok (RS : RT → Int32 → (Int32 → RT → Prop) → Prop) (S : Nat → RP) (L : Nat → Nat) (len : Nat) (o : Int32) : Prop := ∀ (s : RT) (k : Nat) (c : List (Nat × Nat)) (K : Int32 → RT → Prop), AtT s L len k c → c.length ≤ k → k ≤ len → PostP (S k) L len c K → RS s o K
theorem n_open {s : RT} {L : Nat → Nat} {len k o : Nat} {c : List (Nat × Nat)} {K : Int32 → RT → Prop} (hL : LOK L len) (hA : AtT s L len k c) (hk : k < 900) (ho : o ≤ 6) (h1 : o < 6 → L k = 40 → ∀ s', AtT s' L len (k + 1) c → K 1 s') (h0 : ¬ (o < 6 ∧ L k = 40) → K 0 s) : wp_X8_readOpen s (nI o) K := by
  refine ⟨fun q => h0 (fun z => ?_), fun q => ?_⟩
  · have := (nI_leI (a := 6) (by decide) (by omega)).mp q
    omega
  · have ho6 : o < 6 := by
      rcases Nat.lt_or_ge o 6 with w | w
      · exact w
      · exact absurd (nI_le (a := 6) w (by omega)) q
    rw [show (40 : Int32) = nI 40 from rfl]
    exact n_accept hL hA (by omega) (by omega) (fun e s' hs' => ⟨fun z => absurd z (by decide), fun _ => h1 ho6 e s' hs'⟩) (fun e => ⟨fun _ => h0 (fun z => e z.2), fun z => absurd rfl z⟩)
theorem n_bare {RS : RT → Int32 → (Int32 → RT → Prop) → Prop} {S : Nat → RP} {s : RT} {L : Nat → Nat} {len k o : Nat} {c : List (Nat × Nat)} {K : Int32 → RT → Prop} (hL : LOK L len) (ho : o ≤ 6) (hS : o < 6 → SOK S L len) (hRS : o < 6 → RSok RS S L len (nI (o + 1))) (hA : AtT s L len k c) (hc : c.length ≤ k) (hk : k ≤ len) (h : PostP (bareP S (decide (o < 6)) L k) L len c K) : wp_X8_readBareUnit RS s (nI o) K := by
  have h80 := hL.1
  have h126 := LOK_126 hL k
  unfold bareP at h
  refine n_sign hL hA.1 (by omega) (n_isDigitX h126 ⟨fun z1 => ?_, fun z1 => ?_⟩)
  · have q1 : ¬ isD (L k) = true := fun e => by rw [e] at z1; exact absurd z1 (by decide)
    rw [if_neg q1] at h
    refine n_isWithin ?_
    rw [wi_isNm h126]
    refine ⟨fun z2 => ?_, fun z2 => ?_⟩
    · have q2 : ¬ isNm (L k) = true := fun e => by rw [e] at z2; exact absurd z2 (by decide)
      rw [if_neg q2] at h
      rw [show (116 : Int32) = nI 116 from rfl]
      refine n_accept hL hA (by omega) (by omega) (fun q3 s7 h7 => ⟨fun z => absurd z (by decide), fun _ => ?_⟩) (fun q3 => ⟨fun _ => ?_, fun z => absurd rfl z⟩)
      · rw [if_pos q3] at h
        have := LOK_lt hL (k := k) (by omega)
        rw [show (3 : Int32) = nI 3 from rfl]
        exact n_emitOp h7 (by omega) (by omega) (fun s' hs' => (h s').1 rfl hs')
      · rw [if_neg q3] at h
        rw [show (109 : Int32) = nI 109 from rfl]
        refine n_accept hL hA (by omega) (by omega) (fun q4 s10 h10 => ⟨fun z => absurd z (by decide), fun _ => ?_⟩) (fun q4 => ⟨fun _ => ?_, fun z => absurd rfl z⟩)
        · rw [if_pos q4] at h
          have hk0 := LOK_lt hL (k := k) (by omega)
          -- min and max, their second letter being read
          have hword : ∀ (il : Int32) (e2 : Nat) (t : Nat) (s2 : RT), L (k + 1) = 105 ∨ L (k + 1) = 97 → e2 = (if L (k + 1) = 105 then 110 else 120) → t = (if L (k + 1) = 105 then 7 else 8) → (il = 0 ↔ t = 8) → AtT s2 L len (k + 2) c → jp_X8_readLeastOrMost_34 RS (nI o) (fun (r21 : Int32) (s22 : RT) => (narrow .boolean (.int r21) = .int r21) ∧ K r21 s22) il (nI e2) s2 := by
            intro il e2 t s2 q5 he2 ht hil h2
            rw [if_pos q5] at h
            have hk1 := LOK_lt hL (k := k + 1) (by omega)
            have he2b : e2 = 110 ∨ e2 = 120 := by rw [he2]; split <;> simp
            have ht2 : t = 7 ∨ t = 8 := by rw [ht]; split <;> simp
            rw [← he2, ← ht] at h
            refine n_accept hL h2 (by omega) (by omega) (fun q6 s6 h6 => ⟨fun z => absurd z (by decide), fun _ => ?_⟩) (fun q6 => ⟨fun _ => ⟨rfl, ?_⟩, fun z => absurd rfl z⟩)
            · rw [if_pos q6] at h
              have hk2 := LOK_lt hL (k := k + 2) (by omega)
              refine n_open hL h6 (by omega) ho (fun o6 q7 s9 h9 => ⟨fun z => absurd z (by decide), fun _ => ?_⟩) (fun q7 => ⟨fun _ => ⟨rfl, ?_⟩, fun z => absurd rfl z⟩)
              · rw [if_pos ⟨by simpa using o6, q7⟩] at h
                have hk3 := LOK_lt hL (k := k + 3) (by show L (k + 2 + 1) ≠ 0; omega)
                rw [nI_1]
                refine hRS o6 s9 (k + 4) c _ h9 (by omega) (by omega) (fun s12 => ⟨fun q8 h12 => ⟨fun z => absurd z (by decide), fun _ => ?_⟩, fun q8 h12 => ⟨fun _ => ⟨rfl, ?_⟩, fun z => absurd rfl z⟩⟩)
                · rw [if_pos q8] at h
                  obtain ⟨a1, a2, a3⟩ := hS o6 (k + 4) (by omega) q8
                  rw [show (44 : Int32) = nI 44 from rfl]
                  refine n_accept hL h12 (by omega) (by omega) (fun q9 s15 h15 => ⟨fun z => absurd z (by decide), fun _ => ?_⟩) (fun q9 => ⟨fun _ => ⟨rfl, ?_⟩, fun z => absurd rfl z⟩)
                  · rw [if_pos q9] at h
                    have hk4 := LOK_lt hL (k := (S (k + 4)).2.1) (by omega)
                    refine hRS o6 s15 ((S (k + 4)).2.1 + 1) _ _ h15 (by rw [List.length_append]; omega) (by omega) (fun s18 => ⟨fun q10 h18 => ⟨fun z => absurd z (by decide), fun _ => ?_⟩, fun q10 h18 => ⟨fun _ => ⟨rfl, ?_⟩, fun z => absurd rfl z⟩⟩)
                    · rw [if_pos q10] at h
                      obtain ⟨b1, b2, b3⟩ := hS o6 ((S (k + 4)).2.1 + 1) (by omega) q10
                      rw [show (41 : Int32) = nI 41 from rfl]
                      refine n_accept hL h18 (by omega) (by omega) (fun q11 s21 h21 => ⟨fun _ => ?_, fun z => absurd z (by decide)⟩) (fun q11 => ⟨fun z => absurd rfl z, fun _ => ⟨rfl, ?_⟩⟩)
                      · rw [if_pos q11] at h
                        have hk5 := LOK_lt hL (k := (S ((S (k + 4)).2.1 + 1)).2.1) (by omega)
                        have hfin : ∀ s', AtT s' L len ((S ((S (k + 4)).2.1 + 1)).2.1 + 1) (c ++ (S (k + 4)).2.2 ++ (S ((S (k + 4)).2.1 + 1)).2.2 ++ [(t, 0)]) → narrow .boolean (.int 1) = .int 1 ∧ K 1 s' := fun s' hs' => ⟨rfl, (h s').1 rfl (by
                          show AtT s' L len _ (c ++ ((S (k + 4)).2.2 ++ (S ((S (k + 4)).2.1 + 1)).2.2 ++ [(t, 0)]))
                          rw [← List.append_assoc, ← List.append_assoc]
                          exact hs')⟩
                        have hlen : (c ++ (S (k + 4)).2.2 ++ (S ((S (k + 4)).2.1 + 1)).2.2).length < 80 := by rw [List.length_append, List.length_append]; omega
                        refine ⟨fun z => ?_, fun z => ?_⟩
                        · have e : t = 8 := hil.mp z
                          subst e
                          exact n_emit (kd := 8) (d := 0) h21 hlen (by omega) (by omega) (by omega) hfin
                        · have e : t = 7 := by
                            rcases ht2 with w | w
                            · exact w
                            · exact absurd (hil.mpr w) z
                          subst e
                          exact n_emit (kd := 7) (d := 0) h21 hlen (by omega) (by omega) (by omega) hfin
                      · rw [if_neg q11] at h
                        exact (h s18).2 rfl h18.1
                    · rw [if_neg (show ¬ (S ((S (k + 4)).2.1 + 1)).1 = true by rw [q10]; decide)] at h
                      exact (h s18).2 rfl h18
                  · rw [if_neg q9] at h
                    exact (h s12).2 rfl h12.1
                · rw [if_neg (show ¬ (S (k + 4)).1 = true by rw [q8]; decide)] at h
                  exact (h s12).2 rfl h12
              · rw [if_neg (fun w => q7 ⟨by simpa using w.1, w.2⟩)] at h
                exact (h s6).2 rfl h6.1
            · rw [if_neg q6] at h
              exact (h s2).2 rfl h2.1
          refine n_accept (a := 105) hL h10 (by omega) (by omega) (fun q5 s2 h2 => ⟨fun _ => ⟨fun z => absurd z (by decide), fun _ => hword 1 110 7 s2 (Or.inl q5) (by rw [if_pos q5]) (by rw [if_pos q5]) (by decide) h2⟩, fun z => absurd z (by decide)⟩) (fun q5 => ⟨fun z => absurd rfl z, fun _ => ?_⟩)
          refine n_accept (a := 97) hL h10 (by omega) (by omega) (fun q6 s2 h2 => ⟨fun _ => ⟨fun _ => hword 0 120 8 s2 (Or.inr q6) (by rw [if_neg q5]) (by rw [if_neg q5]) (by decide) h2, fun z => absurd rfl z⟩, fun z => absurd z (by decide)⟩) (fun q6 => ⟨fun z => absurd rfl z, fun _ => ⟨rfl, ?_⟩⟩)
          rw [if_neg (fun w => w.elim q5 q6)] at h
          exact (h s10).2 rfl h10.1
        · rw [if_neg q4] at h
          refine n_open hL hA (by omega) ho (fun o6 q7 s9 h9 => ⟨fun z => absurd z (by decide), fun _ => ?_⟩) (fun q7 => ⟨fun _ => ?_, fun z => absurd rfl z⟩)
          · rw [if_pos ⟨by simpa using o6, q7⟩] at h
            have hk3 := LOK_lt hL (k := k) (by omega)
            rw [nI_1]
            refine hRS o6 s9 (k + 1) c _ h9 (by omega) (by omega) (fun s12 => ⟨fun q8 h12 => ⟨fun z => absurd z (by decide), fun _ => ?_⟩, fun q8 h12 => ⟨fun _ => ?_, fun z => absurd rfl z⟩⟩)
            · rw [if_pos q8] at h
              obtain ⟨a1, a2, a3⟩ := hS o6 (k + 1) (by omega) q8
              rw [show (41 : Int32) = nI 41 from rfl]
              refine n_accept hL h12 (by omega) (by omega) (fun q9 s15 h15 => ⟨fun z => absurd z (by decide), fun _ => ?_⟩) (fun q9 => ⟨fun _ => ?_, fun z => absurd rfl z⟩)
              · rw [if_pos q9] at h
                exact (h s15).1 rfl h15
              · rw [if_neg q9] at h
                exact (h s12).2 rfl h12.1
            · rw [if_neg (show ¬ (S (k + 1)).1 = true by rw [q8]; decide)] at h
              exact (h s12).2 rfl h12
          · rw [if_neg (fun w => q7 ⟨by simpa using w.1, w.2⟩)] at h
            exact (h s).2 rfl hA.1
    · have q2 : isNm (L k) = true := by
        cases e : isNm (L k)
        · rw [e] at z2; exact absurd rfl z2
        · rfl
      rw [if_pos q2] at h
      exact n_name hL hA hc q2 (fun s' => ⟨fun a b => ⟨rfl, (h s').1 a b⟩, fun a b => ⟨rfl, (h s').2 a b⟩⟩)
  · have q1 : isD (L k) = true := by
      cases e : isD (L k)
      · rw [e] at z1; exact absurd rfl z1
      · rfl
    rw [if_pos q1] at h
    exact n_number hL hA hc q1 (fun s' => ⟨fun a b => ⟨rfl, (h s').1 a b⟩, fun a b => ⟨rfl, (h s').2 a b⟩⟩)
