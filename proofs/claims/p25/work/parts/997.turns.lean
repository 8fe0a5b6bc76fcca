/-! the law's turns -/
theorem push_sam {A : AB} {G : GH} (h : an A < 4) : an (pushA A G) = an A + 1 ∧ SamA A (popA (pushA A G)) := by
  have e : an (pushA A G) = an A + 1 := if_pos h
  refine ⟨e, ?_, ?_⟩
  · show aK (pushA A G) (an (pushA A G) - 1) = aG A
    rw [e, Nat.add_sub_cancel]
    show (if an A < 4 then (fun i => if i = an A then aG A else aK A i) else (fun i => if i = 3 then aG A else aK A (i + 1))) (an A) = aG A
    rw [if_pos h]
    exact if_pos rfl
  · show an (pushA A G) - 1 = an A
    rw [e, Nat.add_sub_cancel]
theorem q7 (A : AB) : qr_count A 7 = nI (an A) := rfl
theorem n_turns {G : GX} (hG : gN G ≤ 260) : ∀ (f i : Nat) (A : AB), f + i = 16 → AOK A → aj A ≤ 2 * i → lpL G (f + 1) 1 (nI i) A := by
  intro f
  induction f with
  | zero =>
    intro i A e hA hj
    exact ⟨fun _ => rfl, fun q => absurd (nI_le (a := 16) (by omega) (by omega)) q⟩
  | succ f ih =>
    intro i A e hA hj
    have h4 := hA.2.1
    refine ⟨fun _ => rfl, fun _ => ⟨fun q => absurd q (by decide), fun _ => ?_⟩⟩
    rw [show (2 : Int32) * nI i = nI (2 * i) by rw [show (2 : Int32) = nI 2 from rfl, pk_mul], show nI (2 * i) + (1 : Int32) = nI (2 * i + 1) from nI_1 _]
    refine n_cell (by omega) (by omega) (fun r3 => n_cell (by omega) (by omega) (fun r4 => ?_))
    obtain ⟨v, hv⟩ := n_trace hA
    refine hv A (SamA_r A) _ (fun x6 h6 => n_low (m := 12) (by decide) (by decide) (n_goes hA (by omega) (fun r8 A9 hr => ?_)))
    rw [q7] at h6
    subst h6
    have hl : lowN r3 12 < 12 := lowN_lt (by decide)
    obtain ⟨ok9, j9, hr9⟩ := hr
    -- from the check on
    have j182 : ∀ A2, AOK A2 → aj A2 ≤ 2 * (i + 1) → jp_L_body_182 G (fun a b c => lpL G (f + 1) a b c) 1 (nI i) r3 r4 A2 := by
      intro A2 ok2 hj2
      refine ⟨fun q => absurd q (by decide), fun _ => n_fits ok2 ⟨fun q => absurd q (by decide), fun _ x17 h17 => ?_⟩⟩
      rw [nI_1] at h17
      subst h17
      exact ih (i + 1) A2 (by omega) ok2 hj2
    have j97 : jp_L_body_97 G (fun a b c => lpL G (f + 1) a b c) (nI i) r3 r4 v (nI (an A)) (nI (lowN r3 12)) r8 A9 := by
      have d182 := j182 A9 ok9 (by omega)
      refine ⟨fun q => absurd q (by decide), fun _ => n_isError (fun _ => ⟨fun _ => d182, fun q => absurd q (by decide)⟩) (fun hn => ⟨fun q => absurd rfl q, fun _ => ⟨fun _ => d182, fun n6 => ⟨fun _ => d182, fun n11 => ⟨fun _ => d182, fun n4 => ?_⟩⟩⟩⟩)⟩
      have w6 : lowN r3 12 ≠ 6 := fun e => n6 (by rw [e]; rfl)
      have w11 : lowN r3 12 ≠ 11 := fun e => n11 (by rw [e]; rfl)
      have h3 : an A < 4 := by
        rcases Nat.lt_or_ge (an A) 4 with w | w
        · exact w
        · exact absurd (nI_le (a := 4) w (by omega)) n4
      rcases hr9 with ⟨h1, _⟩ | ⟨_, h1 | h1 | ⟨GG, h1⟩⟩
      · exact absurd h1 hn
      · exact absurd h1 w6
      · exact absurd h1 w11
      subst h1
      obtain ⟨p1', p2'⟩ := push_sam (G := GG) h3
      rw [q7, p1', nI_1]
      refine ⟨fun q => absurd rfl q, fun _ r26 A27 hu ok27 => ?_⟩
      rcases hu with ⟨z, _⟩ | ⟨_, u1, u2⟩
      · omega
      subst u2
      rw [p1', Nat.add_sub_cancel] at u1
      refine ⟨fun q => absurd u1 q, fun _ => hv _ p2' _ ⟨fun q => absurd (lgc_eq.mpr rfl) q, fun _ => ?_⟩⟩
      have j27 : aj (popA (pushA A GG)) = aj (pushA A GG) := rfl
      refine n_goes ok27 (by omega) (fun r24 A25 h25 => j182 A25 h25.1 ?_)
      have := h25.2.1
      omega
    refine n_isError (fun he => ⟨fun q => absurd q (by decide), fun _ => ?_⟩) (fun _ => ⟨fun _ => j97, fun q => absurd rfl q⟩)
    have hs : SamA A A9 := by
      rcases hr9 with ⟨_, h2⟩ | ⟨h1, _⟩
      · exact h2
      · exact absurd he h1
    exact hv A9 hs _ ⟨fun q => absurd (lgc_eq.mpr rfl) q, fun _ => j97⟩
theorem law_all (G : GX) (hG : gN G ≤ 260) : wp_L_fits A0 (0 : Int32) (fun r => lpL G 17 r 0 A0) := n_fits A0_ok (n_turns hG 16 0 A0 rfl A0_ok (Nat.zero_le _))
