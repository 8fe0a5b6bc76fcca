/-! the start -/
def L0 : Nat → Nat := fun k => if k = 0 then 48 else 0
def P0 : PB := ((fun _ => L0, fun _ => 1), (fun _ => 0, fun _ => 0), (fun _ => 0, fun _ _ => 0, fun _ _ => 0), (100, 1, 2))
theorem L0_sum : sumP L0 6 0 = (true, 1, [(0, 0)]) := by decide +kernel
theorem L0_ok : TxOK L0 1 := by
  refine ⟨⟨by omega, fun k hk => ?_, fun k hk => ?_⟩, by rw [L0_sum], by rw [L0_sum]⟩
  · have : k = 0 := by omega
    subst this
    show 33 ≤ 48 ∧ 48 ≤ 126
    omega
  · exact if_neg (by omega)
theorem P0_ok : POKp P0 := by
  refine ⟨fun _ _ => L0_ok, fun d _ => ?_, fun v _ => ?_, by show 20 ≤ 100 ∧ 100 ≤ 500; omega, by show 1 ≤ 4; omega, by show 2 ≤ 3; omega⟩
  · show (0 : Int) ≤ 0 ∧ (0 : Int) ≤ 5000 ∧ (-900 : Int) ≤ 0 ∧ (0 : Int) ≤ 900
    omega
  · exact ⟨by show 0 ≤ 6; omega, fun k hk => absurd hk (Nat.not_lt_zero k), fun k hk => absurd hk (Nat.not_lt_zero (k + 1))⟩
theorem P0_us (d : Nat) : ¬ usP P0 d := by
  rintro ⟨v, _, k, _, h2, h3, _⟩
  have h2' : k < 1 := h2
  have : k = 0 := by omega
  subst this
  have h3' : (48 : Nat) = 64 := h3
  omega
theorem QB_P0 : ∀ l, QB (usP P0) (bc P0) (bp P0) l = QB (usP P0) (bc P0) (bp P0) 0 := by
  intro l
  induction l with
  | zero => rfl
  | succ l ih =>
    have e : mkP (usP P0) (bc P0) (bp P0) (QB (usP P0) (bc P0) (bp P0) l) l (fun _ _ => True) = mkP (usP P0) (bc P0) (bp P0) (QB (usP P0) (bc P0) (bp P0) l) l (fun _ _ => False) := by
      funext t d
      apply propext
      constructor
      · rintro ⟨b, e, q1, q2, q3, q4, q5, q6⟩
        exact absurd q3 (P0_us d)
      · rintro ⟨b, e, q1, q2, q3, q4, q5, q6⟩
        exact absurd q6 id
    show Qm (QB (usP P0) (bc P0) (bp P0) l) l (mkP (usP P0) (bc P0) (bp P0) (QB (usP P0) (bc P0) (bp P0) l) l (fun _ _ => True)) = _
    rw [e, Qm_none, ih]
theorem P0_brk : BrkOK P0 1 (fun _ => 0) (fun _ => 0) (fun _ => 0) := by
  refine ⟨⟨fun i j h1 h2 => by omega, fun t o d => ?_⟩, fun i hi => by omega⟩
  rw [QB_P0]
  constructor
  · rintro ⟨h1, h2, h3⟩
    exact ⟨0, by omega, h1.symm, h2.symm, h3.symm⟩
  · rintro ⟨i, _, h1, h2, h3⟩
    exact ⟨h1.symm, h2.symm, h3.symm⟩
def G0 : GH := (P0, (1, fun _ => 0, fun _ => 0, fun _ => 0), (0, fun _ => 0))
theorem G0_ok : PrG 0 G0 := ⟨P0_ok, P0_brk, Nat.le_refl 0, by show 0 ≤ 512; omega, fun k hk => absurd hk (Nat.not_lt_zero k)⟩
theorem S0_ok : SxG G0 s0S := by
  refine ⟨⟨fun v hv => ⟨Or.inr ⟨rfl, ?_⟩, ?_⟩, fun d _ => rfl, fun d _ => rfl, fun v _ => ⟨rfl, fun k hk => absurd hk (Nat.not_lt_zero k)⟩, rfl, rfl, rfl⟩, ⟨rfl, fun i hi => ⟨rfl, rfl, rfl⟩⟩, ⟨rfl, fun j hj => ?_⟩⟩
  · show (sumP L0 6 0).2.2 = _
    rw [L0_sum]
  · show (0 : Int32) = obI (sumP L0 6 0).2.2
    rw [L0_sum]
    rfl
  · show (0 : Int32) = g00 P0 j
    unfold g00
    split
    · rfl
    · rfl
theorem hP_ok : wp_X10_initR s0M (fun z => Inv 0 s0T s0S s0S s0T 0 (fun _ => none) (fun _ => s0S) (fun _ => none) (fun _ => s0S) z) := by
  have vi : ∀ k : Nat, k < 812 → vp_in (nI k) 812 := fun k hk => vp_in_nI hk (by decide)
  refine ⟨vi 0 (by decide), fun s1 h1 => ⟨vi 1 (by decide), fun s2 h2 => ⟨vi 2 (by decide), fun s3 h3 => ⟨4, ?_⟩⟩⟩⟩
  have f3 : s3.1 1 = upd (upd (upd (fun _ => 0) 0 100) 1 1) 2 2 := by rw [h3, h2, h1]; rfl
  have o3 : ∀ k, k ≠ 1 → s3.1 k = fun _ => 0 := by
    intro k hk
    rw [h3, h2, h1]
    show (if k = 1 then _ else if k = 1 then _ else if k = 1 then _ else s0M.1 k) = _
    rw [if_neg hk, if_neg hk, if_neg hk]
    rfl
  have e3 : s3.2 = s0M.2 := by rw [h3, h2, h1]; rfl
  have key : ∀ (f v : Nat) (y : RT), f + v = 4 → v ≤ 3 → (∀ k, k ≠ 1 → y.1 k = fun _ => 0) → y.2 = s0M.2 → (∀ q, (∀ u, u < v → q ≠ 48 + 81 * u ∧ q ≠ 49 + 81 * u) → y.1 1 q = s3.1 1 q) → (∀ u, u < v → y.1 1 (48 + 81 * u) = nI 1 ∧ y.1 1 (49 + 81 * u) = nI 48) → lp_X10_initR_200 (fun z => Inv 0 s0T s0S s0S s0T 0 (fun _ => none) (fun _ => s0S) (fun _ => none) (fun _ => s0S) z) f (nI v) y := by
    intro f
    induction f with
    | zero => intro v y a; omega
    | succ f ih =>
      intro v y a b c1 c2 c3 c4
      refine ⟨fun w => ?_, fun w => ?_⟩
      · have hv := (nI_leI (a := 3) (by decide) (by omega)).mp w
        have z0 : ∀ q, 3 ≤ q → (∀ u, u < v → q ≠ 48 + 81 * u ∧ q ≠ 49 + 81 * u) → y.1 1 q = 0 := fun q hq hu => by rw [c3 q hu, f3, pk_un (by omega), pk_un (by omega), pk_un (by omega)]
        have y0 : y.1 1 0 = nI 100 := by rw [c3 0 (fun u hu => by omega), f3]; rfl
        have y1 : y.1 1 1 = nI 1 := by rw [c3 1 (fun u hu => by omega), f3]; rfl
        have y2 : y.1 1 2 = nI 2 := by rw [c3 2 (fun u hu => by omega), f3]; rfl
        have hR : RwG G0 (y.1 1) := by
          refine ⟨⟨fun u hu => ⟨(c4 u (by omega)).1, fun i hi => ?_⟩, fun d hd => ?_, fun d hd => ?_, fun u hu => ⟨?_, fun k hk => absurd hk (Nat.not_lt_zero k)⟩, y0, y1, y2⟩, ?_, fun k hk => absurd hk (Nat.not_lt_zero k)⟩
          · have hi' : i < 1 := hi
            have : i = 0 := by omega
            subst this
            exact (c4 u (by omega)).2
          · rw [z0 _ (by omega) (fun u hu => by omega)]; rfl
          · rw [z0 _ (by omega) (fun u hu => by omega)]; rfl
          · rw [z0 _ (by omega) (fun u' hu' => by omega)]; rfl
          · rw [z0 _ (by omega) (fun u hu => by omega)]; rfl
        have y2s : ∀ k, y.2.2 k = 0 := fun k => by rw [c2]; rfl
        refine n_solvesAll G0_ok.1 hR.1 G0_ok.2.1 G0_ok.2.2.2 hR.2.1 hR.2.2 (y2s 19) (fun z d1 d2 d3 d4 => ?_)
        refine ⟨⟨fun _ => 0, 0, TxtG_0 rfl (d1.2.2.trans (y2s 6))⟩, ⟨G0, G0_ok, S0_ok, by rw [d1.1 1 (by decide)]; exact hR, d3, d4⟩, ⟨0, rfl, d1.2.1.trans (y2s 2), by omega, fun i hi => absurd hi (Nat.not_lt_zero i)⟩, fun i hi => Or.inl ⟨rfl, ?_⟩, SxG_Z0 G0_ok S0_ok, d2⟩
        rw [d1.1 4 (by decide), c1 4 (by decide)]
      · have hv : v < 3 := by
          rcases Nat.lt_or_ge v 3 with w2 | w2
          · exact w2
          · exact absurd (nI_le w2 (by omega)) w
        rw [ixR0, show nI (48 + 81 * v) + (1 : Int32) = nI (49 + 81 * v) by rw [nI_1]; congr 1; omega, nI_clamp (by omega), nI_clamp (by omega)]
        refine ⟨vi _ (by omega), fun s6 h6 => ⟨vi _ (by omega), fun s7 h7 x8 h8 => ?_⟩⟩
        have e8 : x8 = nI (v + 1) := h8.trans (nI_1 v)
        subst e8
        have g7 : s7.1 1 = upd (upd (y.1 1) (48 + 81 * v) 1) (49 + 81 * v) 48 := by rw [h7, h6]; rfl
        refine ih (v + 1) s7 (by omega) (by omega) (fun k hk => ?_) (by rw [h7, h6]; exact c2) (fun q hq => ?_) (fun u hu => ?_)
        · rw [h7, h6]
          show (if k = 1 then _ else if k = 1 then _ else y.1 k) = _
          rw [if_neg hk, if_neg hk]; exact c1 k hk
        · have := hq v (by omega)
          rw [g7, pk_un (by omega), pk_un (by omega)]
          exact c3 q (fun u hu => hq u (by omega))
        · rw [g7]
          by_cases e : u = v
          · subst e
            rw [pk_un (by omega), pk_us, pk_us]
            exact ⟨rfl, rfl⟩
          · rw [pk_un (by omega), pk_un (by omega), pk_un (by omega), pk_un (by omega)]
            exact c4 u (by omega)
  exact key 4 0 s3 rfl (by decide) o3 e3 (fun q _ => rfl) (fun u hu => by omega)
