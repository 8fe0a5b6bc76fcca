/-! the delays in the bits of operands -/
def mkN (d : Nat) : Nat := 7 * 2 ^ (4 + d * 3) ||| 7 * 2 ^ (13 + d * 3)
theorem mkN_I : ∀ d, d < 3 → (((7 : Int32) <<< (nI (4 + d * 3 + 0) &&& 31)) ||| ((7 : Int32) <<< (nI (13 + d * 3 + 0) &&& 31))) = nI (mkN d) := by decide +kernel
theorem mkN_bit : ∀ d, d < 3 → ∀ p, p < 22 → ((mkN d).testBit p = true ↔ (4 + d * 3 ≤ p ∧ p < 7 + d * 3) ∨ (13 + d * 3 ≤ p ∧ p < 16 + d * 3)) := by decide +kernel
theorem mkN_lt : ∀ d, d < 3 → mkN d < 2 ^ 22 := by decide +kernel
theorem mkN_op {d p : Nat} (hd : d < 3) : (mkN d).testBit p = true ↔ opD p d := by
  rcases Nat.lt_or_ge p 22 with w | w
  · exact mkN_bit d hd p w
  · have h1 : mkN d < 2 ^ p := Nat.lt_of_lt_of_le (mkN_lt d hd) (Nat.pow_le_pow_right (by decide) w)
    rw [Nat.testBit_lt_two_pow h1]
    unfold opD
    constructor
    · intro h; exact absurd h (by decide)
    · intro h; omega
theorem and_nI (a b : Nat) : nI a &&& nI b = nI (a &&& b) := by
  unfold nI
  apply Int32.toBitVec_inj.mp
  rw [Int32.toBitVec_and]
  exact (BitVec.ofNat_and ..).symm
def usB (b d : Nat) : Prop := ∃ p, opD p d ∧ b.testBit p = true
theorem usB_and {b d : Nat} (hd : d < 3) : b &&& mkN d ≠ 0 ↔ usB b d := by
  constructor
  · intro h
    obtain ⟨p, hp⟩ := Nat.exists_testBit_of_ne_zero h
    rw [Nat.testBit_and, Bool.and_eq_true] at hp
    exact ⟨p, (mkN_op hd).mp hp.2, hp.1⟩
  · rintro ⟨p, h1, h2⟩ e
    have h3 : (b &&& mkN d).testBit p = true := by rw [Nat.testBit_and, Bool.and_eq_true]; exact ⟨h2, (mkN_op hd).mpr h1⟩
    rw [e, Nat.zero_testBit] at h3
    exact absurd h3 (by decide)
theorem n_needsDelay {b d : Nat} {K : Int32 → Prop} (hb : b < 2 ^ 22) (hd : d < 3) (h1 : usB b d → K 1) (h0 : ¬ usB b d → K 0) : wp_X9_needsDelay (nI b) (nI d) K := by
  unfold wp_X9_needsDelay
  rw [show (0 : Int32) = nI 0 from rfl]
  refine n_pastOp (n_slopeOp (fun x3 h3 => ?_))
  rw [mkN_I d hd] at h3
  subst h3
  rw [and_nI]
  have hlt : b &&& mkN d < 2 ^ 22 := Nat.and_lt_two_pow _ (mkN_lt d hd)
  have e : nI (b &&& mkN d) = nI 0 ↔ b &&& mkN d = 0 := nI_eq (by omega) (by decide)
  refine ⟨fun q => ?_, fun q => ?_⟩
  · exact h0 (fun w => (usB_and hd).mpr w (e.mp q))
  · exact h1 ((usB_and hd).mp (fun w => q (e.mpr w)))
theorem or_w : ∀ w, w < 8 → ∀ d, d < 3 → nI w ||| ((1 : Int32) <<< (nI d &&& 31)) = nI (w ||| 2 ^ d) := by decide +kernel
theorem or_w2 : ∀ w, w < 8 → ∀ d, d < 3 → w ||| 2 ^ d < 8 ∧ ∀ e, e < 3 → ((w ||| 2 ^ d) / 2 ^ e % 2 = 1 ↔ w / 2 ^ e % 2 = 1 ∨ e = d) := by decide +kernel
theorem or_w3 : ∀ w, w < 8 → ∀ v, v < 8 → w ||| v < 8 ∧ ∀ e, e < 3 → ((w ||| v) / 2 ^ e % 2 = 1 ↔ w / 2 ^ e % 2 = 1 ∨ v / 2 ^ e % 2 = 1) := by decide +kernel
theorem Ub_uniq {w v : Nat} (hw : w < 8) (hv : v < 8) (h : ∀ d, d < 3 → (Ub w d ↔ Ub v d)) : w = v := by
  have h0 := h 0 (by decide)
  have h1 := h 1 (by decide)
  have h2 := h 2 (by decide)
  unfold Ub at h0 h1 h2
  rw [show (2 : Nat) ^ 0 = 1 from rfl] at h0
  rw [show (2 : Nat) ^ 1 = 2 from rfl] at h1
  rw [show (2 : Nat) ^ 2 = 4 from rfl] at h2
  omega
theorem n_delaysIn {b : Nat} {K : Int32 → Prop} (hb : b < 2 ^ 22) (h : ∀ w, w < 8 → (∀ d, d < 3 → (Ub w d ↔ usB b d)) → K (nI w)) : wp_X9_delaysIn (nI b) K := by
  have key : ∀ f d w, f + d = 4 → d ≤ 3 → w < 8 → (∀ e, e < 3 → (Ub w e ↔ e < d ∧ usB b e)) → lp_X9_delaysIn_4 (nI b) K f (nI w) (nI d) := by
    intro f
    induction f with
    | zero => intro d w h1 h1' h2 h3; omega
    | succ f ih =>
      intro d w h1 h1' h2 h3
      refine ⟨fun q => ?_, fun q => ?_⟩
      · have hd : 3 ≤ d := (nI_leI (a := 3) (by decide) (by omega)).mp q
        exact h w h2 (fun e he => (h3 e he).trans ⟨fun z => z.2, fun z => ⟨by omega, z⟩⟩)
      · have hd : d < 3 := by
          rcases Nat.lt_or_ge d 3 with z | z
          · exact z
          · exact absurd (nI_le z (by omega)) q
        refine n_needsDelay hb hd (fun u => ⟨fun z => absurd z (by decide), fun _ x5 h5 x6 h6 => ?_⟩) (fun u => ⟨fun _ x4 h4 => ?_, fun z => absurd rfl z⟩)
        · have e6 : x6 = nI (d + 1) := h6.trans (nI_1 d)
          rw [or_w w h2 d hd] at h5
          subst h5; subst e6
          obtain ⟨o1, o2⟩ := or_w2 w h2 d hd
          refine ih (d + 1) _ (by omega) (by omega) o1 (fun e he => ?_)
          have h4 := h3 e he
          unfold Ub at h4 ⊢
          rw [o2 e he, h4]
          constructor
          · rintro (z | z)
            · exact ⟨by omega, z.2⟩
            · subst z; exact ⟨by omega, u⟩
          · rintro ⟨z1, z2⟩
            by_cases z : e = d
            · exact Or.inr z
            · exact Or.inl ⟨by omega, z2⟩
        · have e4 : x4 = nI (d + 1) := h4.trans (nI_1 d)
          subst e4
          refine ih (d + 1) w (by omega) (by omega) h2 (fun e he => (h3 e he).trans ⟨fun z => ⟨by omega, z.2⟩, fun z => ⟨?_, z.2⟩⟩)
          by_cases q2 : e = d
          · subst q2; exact absurd z.2 u
          · omega
  exact ⟨4, key 4 0 0 rfl (by decide) (by decide) (fun e he => ⟨fun z => by unfold Ub at z; rw [Nat.zero_div] at z; omega, fun z => by omega⟩)⟩
/-- all operands -/
theorem n_allOperands {s : RT} {b : Nat → Nat} {K : Int32 → Prop} (hb : ∀ v, v < 3 → s.1 4 v = nI (b v)) (h : K (nI (b 0 ||| b 1 ||| b 2))) : wp_X5_allOperands s K := by
  have p : ∀ v, v < 3 → ∀ K : Int32 → Prop, K (nI (b v)) → wp_X9_pick 3 (s.1 4) (nI v) K := fun v hv K k => n_pick (by decide) (by rw [pk_n (by decide) hv, hb v hv]; exact k)
  refine ⟨4, fun q => absurd q (by decide), fun _ => p 0 (by decide) _ (fun x3 h3 x4 h4 => ⟨fun q => absurd q (by subst h4; decide), fun _ => ?_⟩)⟩
  subst h3; subst h4
  refine p 1 (by decide) _ (fun x3 h3 x4 h4 => ⟨fun q => absurd q (by subst h4; decide), fun _ => ?_⟩)
  subst h3; subst h4
  refine p 2 (by decide) _ (fun x3 h3 x4 h4 => ⟨fun _ => ?_, fun q => absurd (by subst h4; decide) q⟩)
  subst h3; subst h4
  rw [show (0 : Int32) = nI 0 from rfl, or_nI, or_nI, or_nI, Nat.zero_or]
  exact h
