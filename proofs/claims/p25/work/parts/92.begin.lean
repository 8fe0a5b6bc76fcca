/-! the start -/
def L0 : Nat → Nat := fun k => if k = 0 then 48 else 0
def P0 : PB := ((fun _ => L0, fun _ => 1), (fun _ => 0, fun _ => 0), (fun _ => 0, fun _ _ => 0, fun _ _ => 0), (100, 1, 2))
theorem L0_sum : sumP L0 6 0 = (true, 1, [(0, 0)]) := by decide +kernel
theorem L0_ok : TxOK L0 1 := by
  refine ⟨⟨by omega, fun k hk => ?_, fun k hk => ?_⟩, by rw [L0_sum], by rw [L0_sum]⟩
  · have : k = 0 := by omega
    subst this
    show 33 ≤ 48 ∧ 48 ≤ 126
    omega
  · exact if_neg (by omega)
theorem P0_ok : POKp P0 := by
  refine ⟨fun _ _ => L0_ok, fun d _ => ?_, fun v _ => ?_, by show 20 ≤ 100 ∧ 100 ≤ 500; omega, by show 1 ≤ 4; omega, by show 2 ≤ 3; omega⟩
  · show (0 : Int) ≤ 0 ∧ (0 : Int) ≤ 5000 ∧ (-900 : Int) ≤ 0 ∧ (0 : Int) ≤ 900
    omega
  · exact ⟨by show 0 ≤ 6; omega, fun k hk => absurd hk (Nat.not_lt_zero k), fun k hk => absurd hk (Nat.not_lt_zero (k + 1))⟩
theorem P0_us (d : Nat) : ¬ usP P0 d := by
  rintro ⟨v, _, k, _, h2, h3, _⟩
  have h2' : k < 1 := h2
  have : k = 0 := by omega
  subst this
  have h3' : (48 : Nat) = 64 := h3
  omega
theorem QB_P0 : ∀ l, QB (usP P0) (bc P0) (bp P0) l = QB (usP P0) (bc P0) (bp P0) 0 := by
  intro l
  induction l with
  | zero => rfl
  | succ l ih =>
    have e : mkP (usP P0) (bc P0) (bp P0) (QB (usP P0) (bc P0) (bp P0) l) l (fun _ _ => True) = mkP (usP P0) (bc P0) (bp P0) (QB (usP P0) (bc P0) (bp P0) l) l (fun _ _ => False) := by
      funext t d
      apply propext
      constructor
      · rintro ⟨b, e, q1, q2, q3, q4, q5, q6⟩
        exact absurd q3 (P0_us d)
      · rintro ⟨b, e, q1, q2, q3, q4, q5, q6⟩
        exact absurd q6 id
    show Qm (QB (usP P0) (bc P0) (bp P0) l) l (mkP (usP P0) (bc P0) (bp P0) (QB (usP P0) (bc P0) (bp P0) l) l (fun _ _ => True)) = _
    rw [e, Qm_none, ih]
theorem P0_brk : BrkOK P0 1 (fun _ => 0) (fun _ => 0) (fun _ => 0) := by
  refine ⟨⟨fun i j h1 h2 => by omega, fun t o d => ?_⟩, fun i hi => by omega⟩
  rw [QB_P0]
  constructor
  · rintro ⟨h1, h2, h3⟩
    exact ⟨0, by omega, h1.symm, h2.symm, h3.symm⟩
  · rintro ⟨i, _, h1, h2, h3⟩
    exact ⟨h1.symm, h2.symm, h3.symm⟩
def G0 : GH := (P0, (1, fun _ => 0, fun _ => 0, fun _ => 0), (0, fun _ => 0))
theorem G0_ok : PrG 0 G0 := ⟨P0_ok, P0_brk, Nat.le_refl 0, by show 0 ≤ 512; omega, fun k hk => absurd hk (Nat.not_lt_zero k)⟩
theorem S0_ok : SxG G0 s0S := by
  refine ⟨⟨fun v hv => ⟨Or.inr ⟨rfl, ?_⟩, ?_⟩, fun d _ => rfl, fun d _ => rfl, fun v _ => ⟨rfl, fun k hk => absurd hk (Nat.not_lt_zero k)⟩, rfl, rfl, rfl⟩, ⟨rfl, fun i hi => ⟨rfl, rfl, rfl⟩⟩, ⟨rfl, fun j hj => ?_⟩⟩
  · show (sumP L0 6 0).2.2 = _
    rw [L0_sum]
  · show (0 : Int32) = obI (sumP L0 6 0).2.2
    rw [L0_sum]
    rfl
  · show (0 : Int32) = g00 P0 j
    unfold g00
    split
    · rfl
    · rfl
