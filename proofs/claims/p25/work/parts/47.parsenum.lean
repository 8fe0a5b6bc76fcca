/-! the class reads a number, a name -/
def PostP (r : RP) (L : Nat → Nat) (len : Nat) (c : List (Nat × Nat)) (K : Int32 → RT → Prop) : Prop := ∀ s', (r.1 = true → AtT s' L len r.2.1 (c ++ r.2.2) → K 1 s') ∧ (r.1 = false → AtF s' L len r.2.1 → K 0 s')
theorem isD_iff {c : Nat} : isD c = true ↔ 48 ≤ c ∧ c ≤ 57 := by unfold isD; simp only [Bool.and_eq_true, decide_eq_true_eq]
theorem isNm_iff {c : Nat} : isNm c = true ↔ 120 ≤ c ∧ c ≤ 122 := by unfold isNm; simp only [Bool.and_eq_true, decide_eq_true_eq]
theorem dgN_le {L : Nat → Nat} : ∀ m k, dgN L m k ≤ m := by
  intro m
  induction m with
  | zero => intro k; exact Nat.le_refl 0
  | succ m ih =>
    intro k
    unfold dgN
    have := ih (k + 1)
    split <;> omega
theorem dgN_len {L : Nat → Nat} {len : Nat} (hL : LOK L len) : ∀ m k, k ≤ len → k + dgN L m k ≤ len := by
  intro m
  induction m with
  | zero => intro k h; exact h
  | succ m ih =>
    intro k h
    unfold dgN
    by_cases q : isD (L k) = true
    · rw [if_pos q]
      have h2 := isD_iff.mp q
      have := LOK_lt hL (k := k) (by omega)
      have := ih (k + 1) (by omega)
      omega
    · rw [if_neg q]; exact h
theorem accV_lt {L : Nat → Nat} : ∀ m k a, accV L (dgN L m k) k a + 1 ≤ (a + 1) * 10 ^ m := by
  intro m
  induction m with
  | zero => intro k a; show a + 1 ≤ (a + 1) * 1; omega
  | succ m ih =>
    intro k a
    unfold dgN
    rw [Nat.pow_succ]
    have hp : 0 < 10 ^ m := Nat.pow_pos (by omega)
    by_cases q : isD (L k) = true
    · rw [if_pos q]
      have h2 := isD_iff.mp q
      show accV L (dgN L m (k + 1)) (k + 1) (a * 10 + (L k - 48)) + 1 ≤ _
      have h3 := ih (k + 1) (a * 10 + (L k - 48))
      have h4 : (a * 10 + (L k - 48) + 1) * 10 ^ m ≤ ((a + 1) * 10) * 10 ^ m := Nat.mul_le_mul (by omega) (Nat.le_refl _)
      rw [show (a + 1) * (10 ^ m * 10) = ((a + 1) * 10) * 10 ^ m by rw [Nat.mul_comm (10 ^ m) 10, ← Nat.mul_assoc]]
      omega
    · rw [if_neg q]
      show a + 1 ≤ _
      have h4 : (a + 1) * 1 ≤ (a + 1) * (10 ^ m * 10) := Nat.mul_le_mul (Nat.le_refl _) (by omega)
      omega
theorem frV_lt {L : Nat → Nat} : ∀ m k a w, w ≤ 100 → frV L (dgN L m k) k a w ≤ a + 900 * m := by
  intro m
  induction m with
  | zero => intro k a w h; show a ≤ _; omega
  | succ m ih =>
    intro k a w h
    unfold dgN
    by_cases q : isD (L k) = true
    · rw [if_pos q]
      have h2 := isD_iff.mp q
      show frV L (dgN L m (k + 1)) (k + 1) (a + (L k - 48) * w) (w / 10) ≤ _
      have h3 := ih (k + 1) (a + (L k - 48) * w) (w / 10) (by omega)
      have h4 : (L k - 48) * w ≤ 9 * 100 := Nat.mul_le_mul (by omega) h
      omega
    · rw [if_neg q]
      show a ≤ _; omega
theorem n_number {s : RT} {L : Nat → Nat} {len k : Nat} {c : List (Nat × Nat)} {K : Int32 → RT → Prop} (hL : LOK L len) (hA : AtT s L len k c) (hc : c.length ≤ k) (hk : isD (L k) = true) (h : PostP (numP L k) L len c K) : wp_X8_readNumber s K := by
  have h80 := hL.1
  have hkd := isD_iff.mp hk
  have hkl := LOK_lt hL (k := k) (by omega)
  have a1 := accV_lt (L := L) 4 k 0
  have e1 := dgN_len hL 4 k (by omega)
  unfold numP at h
  generalize hd : dgN L 4 k = g at h a1 e1
  generalize hac : accV L g k 0 = ac at h a1
  have hac4 : ac ≤ 9999 := by
    have : (0 + 1) * 10 ^ 4 = 10000 := by decide
    omega
  -- the end: a number is emitted
  have hend : ∀ y at' v, AtT y L len at' c → v < 100000000 → (∀ s', AtT s' L len at' (c ++ [(0, v)]) → K 1 s') → jp_X8_readNumber_128 K (nI v) y := by
    intro y at' v hy hv hK
    exact n_emit (kd := 0) hy (by omega) (by omega) (by omega) hv hK
  have h48 : ∀ y, AtT y L len (k + g) c → jp_X8_readNumber_48 K (nI ac) y := by
    intro y hy x2 hx2
    rw [show (1000 : Int32) = nI 1000 from rfl, pk_mul] at hx2
    subst hx2
    rw [show (46 : Int32) = nI 46 from rfl]
    refine n_accept hL hy (by omega) (by omega) (fun q s4 h4 => ⟨fun z => absurd z (by decide), fun _ => ?_⟩) (fun q => ⟨fun _ => ?_, fun z => absurd rfl z⟩)
    · rw [if_pos q] at h
      have hkg := LOK_lt hL (k := k + g) (by omega)
      refine n_sign hL h4.1 (by omega) (n_isDigitX (LOK_126 hL _) ?_)
      by_cases q2 : isD (L (k + g + 1)) = true
      · have hm : dgN L 3 (k + g + 1) ≠ 0 := by unfold dgN; rw [if_pos q2]; omega
        rw [if_neg hm] at h
        rw [q2]
        refine ⟨fun _ => ?_, fun z => absurd z (by decide)⟩
        have f1 := frV_lt (L := L) 3 (k + g + 1) (ac * 1000) 100 (Nat.le_refl _)
        have key : ∀ m i at' v w y, i + m = 3 → AtT y L len at' c → at' < 900 → w ≤ 100 → (∀ y', AtT y' L len (at' + dgN L m at') c → jp_X8_readNumber_128 K (nI (frV L (dgN L m at') at' v w)) y') → lp_X8_readNumber_80 K (m + 1) (nI v) (nI w) (nI i) y := by
          intro m
          induction m with
          | zero =>
            intro i at' v w y hi hy ha hw hK
            refine ⟨fun _ => hK y hy, fun q => absurd (nI_le (a := 3) (show 3 ≤ i by omega) (by omega)) q⟩
          | succ m ih =>
            intro i at' v w y hi hy ha hw hK
            refine ⟨fun q => ?_, fun _ => n_sign hL hy.1 (by omega) (n_isDigitX (LOK_126 hL _) ?_)⟩
            · have := (nI_leI (a := 3) (by decide) (by omega)).mp q
              omega
            · unfold dgN at hK
              by_cases q3 : isD (L at') = true
              · rw [if_pos q3] at hK
                have hd3 := isD_iff.mp q3
                have hal := LOK_lt hL (k := at') (by omega)
                rw [q3]
                refine ⟨fun z => absurd z (by decide), fun _ => n_sign hL hy.1 (by omega) ?_⟩
                intro x15 hx15 x16 hx16 s17 h17 x18 hx18
                have e15 : x15 = nI (v + (L at' - 48) * w) := by rw [hx15, show (48 : Int32) = nI 48 from rfl, pk_sub hd3.1, pk_mul, nI_add]
                have e16 : x16 = nI (w / 10) := by rw [hx16, show (10 : Int32) = nI 10 from rfl, pk_div (by omega) (by decide) (by decide)]
                have e18 : x18 = nI (i + 1) := hx18.trans (nI_1 i)
                rw [hy.1.2.2, nI_1] at h17
                subst e15; subst e16; subst e18; subst h17
                refine ih (i + 1) (at' + 1) _ _ _ (by omega) (AtT_go hy) (by omega) (by omega) (fun y' hy' => hK y' ?_)
                rw [show at' + (dgN L m (at' + 1) + 1) = at' + 1 + dgN L m (at' + 1) by omega]
                exact hy'
              · rw [if_neg q3] at hK
                rw [show isD (L at') = false by simpa using q3]
                exact ⟨fun _ => hK y hy, fun z => absurd rfl z⟩
        refine ⟨4, key 3 0 (k + g + 1) (ac * 1000) 100 s4 rfl h4 (by omega) (by omega) (fun y' hy' => hend y' _ _ hy' (by omega) (fun s' hs' => (h s').1 rfl hs'))⟩
      · have hm : dgN L 3 (k + g + 1) = 0 := by unfold dgN; rw [if_neg q2]
        rw [if_pos hm] at h
        rw [show isD (L (k + g + 1)) = false by simpa using q2]
        exact ⟨fun z => absurd rfl z, fun _ => (h s4).2 rfl h4.1⟩
    · rw [if_neg q] at h
      exact hend y _ _ hy (by omega) (fun s' hs' => (h s').1 rfl hs')
  have key : ∀ m i at' v y, i + m = 4 → AtT y L len at' c → at' < 900 → (∀ y', AtT y' L len (at' + dgN L m at') c → jp_X8_readNumber_48 K (nI (accV L (dgN L m at') at' v)) y') → lp_X8_readNumber_4 K (m + 1) (nI v) (nI i) y := by
    intro m
    induction m with
    | zero =>
      intro i at' v y hi hy ha hK
      refine ⟨fun _ => hK y hy, fun q => absurd (nI_le (a := 4) (show 4 ≤ i by omega) (by omega)) q⟩
    | succ m ih =>
      intro i at' v y hi hy ha hK
      refine ⟨fun q => ?_, fun _ => n_sign hL hy.1 (by omega) (n_isDigitX (LOK_126 hL _) ?_)⟩
      · have := (nI_leI (a := 4) (by decide) (by omega)).mp q
        omega
      · unfold dgN at hK
        by_cases q3 : isD (L at') = true
        · rw [if_pos q3] at hK
          have hd3 := isD_iff.mp q3
          have hal := LOK_lt hL (k := at') (by omega)
          rw [q3]
          refine ⟨fun z => absurd z (by decide), fun _ => n_sign hL hy.1 (by omega) ?_⟩
          intro x15 hx15 s17 h17 x18 hx18
          have e15 : x15 = nI (v * 10 + (L at' - 48)) := by
            rw [hx15, show (48 : Int32) = nI 48 from rfl, show (10 : Int32) = nI 10 from rfl, pk_mul, nI_add, pk_sub (by omega)]
            congr 1; omega
          have e18 : x18 = nI (i + 1) := hx18.trans (nI_1 i)
          rw [hy.1.2.2, nI_1] at h17
          subst e15; subst e18; subst h17
          refine ih (i + 1) (at' + 1) _ _ (by omega) (AtT_go hy) (by omega) (fun y' hy' => hK y' ?_)
          rw [show at' + (dgN L m (at' + 1) + 1) = at' + 1 + dgN L m (at' + 1) by omega]
          exact hy'
        · rw [if_neg q3] at hK
          rw [show isD (L at') = false by simpa using q3]
          exact ⟨fun _ => hK y hy, fun z => absurd rfl z⟩
  refine ⟨5, key 4 0 k 0 s rfl hA (by omega) (fun y' hy' => ?_)⟩
  rw [hd] at hy' ⊢
  rw [hac]
  exact h48 y' hy'
theorem n_pastOp {d v : Nat} {K : Int32 → Prop} (h : K (nI (4 + d * 3 + v))) : wp_X9_pastOperand (nI d) (nI v) K := by
  unfold wp_X9_pastOperand
  rw [show (4 : Int32) = nI 4 from rfl, show (3 : Int32) = nI 3 from rfl, pk_mul, nI_add, nI_add]; exact h
theorem n_slopeOp {d v : Nat} {K : Int32 → Prop} (h : K (nI (13 + d * 3 + v))) : wp_X9_slopeOperand (nI d) (nI v) K := by
  unfold wp_X9_slopeOperand
  rw [show (13 : Int32) = nI 13 from rfl, show (3 : Int32) = nI 3 from rfl, pk_mul, nI_add, nI_add]; exact h
theorem n_name {s : RT} {L : Nat → Nat} {len k : Nat} {c : List (Nat × Nat)} {K : Int32 → RT → Prop} (hL : LOK L len) (hA : AtT s L len k c) (hc : c.length ≤ k) (hk : isNm (L k) = true) (h : PostP (namP L k) L len c K) : wp_X8_readName s K := by
  have h80 := hL.1
  have hkd := isNm_iff.mp hk
  have hkl := LOK_lt hL (k := k) (by omega)
  unfold namP at h
  refine n_sign hL hA.1 (by omega) ?_
  intro x2 hx2 s3 h3
  have e2 : x2 = nI (L k - 120) := by rw [hx2, show (120 : Int32) = nI 120 from rfl, pk_sub hkd.1]
  rw [hA.1.2.2, nI_1] at h3
  subst e2; subst h3
  have hA1 := AtT_go hA
  have hdel : ∀ {a : Nat}, a ≤ 126 → 48 ≤ a ∧ a ≤ 50 → wi (nI a - (48 : Int32)) 0 2 = true ∧ nI a - (48 : Int32) = nI (a - 48) := by
    intro a ha hb
    have e : nI a - (48 : Int32) = nI (a - 48) := by rw [show (48 : Int32) = nI 48 from rfl, pk_sub hb.1]
    refine ⟨?_, e⟩
    rw [e, wi_eq, nI_int (by omega), show (0 : Int32).toInt = 0 from rfl, show (2 : Int32).toInt = 2 from rfl]
    omega
  have hnot : ∀ {a : Nat}, a ≤ 126 → ¬ (48 ≤ a ∧ a ≤ 50) → wi (nI a - (48 : Int32)) 0 2 = false := by
    intro a ha hb
    have e : (nI a - (48 : Int32)).toInt = (a : Int) - 48 := i_sub (nI_int (by omega)) rfl ⟨by omega, by omega⟩
    cases hw : wi (nI a - (48 : Int32)) 0 2
    · rfl
    · rw [wi_eq, e, show (0 : Int32).toInt = 0 from rfl, show (2 : Int32).toInt = 2 from rfl] at hw
      omega
  rw [show (39 : Int32) = nI 39 from rfl]
  refine n_accept hL hA1 (by omega) (by omega) (fun q s5 h5 => ?_) (fun q => ?_)
  · rw [if_pos q] at h
    have hk1 := LOK_lt hL (k := k + 1) (by omega)
    rw [show (64 : Int32) = nI 64 from rfl]
    refine n_accept hL h5 (by omega) (by omega) (fun q2 s7 h7 => ⟨fun _ => ?_, fun z => absurd z (by decide)⟩) (fun q2 => ⟨fun z => absurd rfl z, fun _ => ?_⟩)
    · rw [if_pos q2] at h
      have hk2 := LOK_lt hL (k := k + 2) (by show L (k + 1 + 1) ≠ 0; omega)
      refine n_sign hL h7.1 (by omega) ?_
      intro x10 hx10
      subst hx10
      have h126 := LOK_126 hL (k + 3)
      refine n_isDelay ?_
      by_cases q3 : 48 ≤ L (k + 3) ∧ L (k + 3) ≤ 50
      · rw [if_pos q3] at h
        obtain ⟨w1, w2⟩ := hdel h126 q3
        have hk3 := LOK_lt hL (k := k + 3) (by omega)
        show (¬ b2 (wi (nI (L (k + 3)) - 48) 0 2) = 0 → _) ∧ _
        rw [w1, w2]
        refine ⟨fun _ => ?_, fun z => absurd z (by decide)⟩
        intro s13 h13
        rw [h7.1.2.2, nI_1] at h13
        subst h13
        refine ⟨fun z => absurd z (by decide), fun _ => n_slopeOp (n_emitOp (AtT_go h7) (by omega) (by omega) (fun s' hs' => (h s').1 rfl hs'))⟩
      · rw [if_neg q3] at h
        show (¬ b2 (wi (nI (L (k + 3)) - 48) 0 2) = 0 → _) ∧ _
        rw [hnot h126 q3]
        exact ⟨fun z => absurd rfl z, fun _ => (h s7).2 rfl h7.1⟩
    · rw [if_neg q2] at h
      refine n_emitOp h5 (by omega) (by omega) (fun s' hs' => ⟨fun _ => (h s').2 rfl hs'.1, fun z => absurd z (by decide)⟩)
  · rw [if_neg q] at h
    rw [show (64 : Int32) = nI 64 from rfl]
    refine n_accept hL hA1 (by omega) (by omega) (fun q2 s7 h7 => ⟨fun _ => ?_, fun z => absurd z (by decide)⟩) (fun q2 => ⟨fun z => absurd rfl z, fun _ => ?_⟩)
    · rw [if_pos q2] at h
      have hk2 := LOK_lt hL (k := k + 1) (by omega)
      refine n_sign hL h7.1 (by omega) ?_
      intro x10 hx10
      subst hx10
      have h126 := LOK_126 hL (k + 2)
      refine n_isDelay ?_
      by_cases q3 : 48 ≤ L (k + 2) ∧ L (k + 2) ≤ 50
      · rw [if_pos q3] at h
        obtain ⟨w1, w2⟩ := hdel h126 q3
        have hk3 := LOK_lt hL (k := k + 2) (by omega)
        show (¬ b2 (wi (nI (L (k + 2)) - 48) 0 2) = 0 → _) ∧ _
        rw [w1, w2]
        refine ⟨fun _ => ?_, fun z => absurd z (by decide)⟩
        intro s13 h13
        rw [h7.1.2.2, nI_1] at h13
        subst h13
        refine ⟨fun _ => n_pastOp (n_emitOp (AtT_go h7) (by omega) (by omega) (fun s' hs' => (h s').1 rfl hs')), fun z => absurd rfl z⟩
      · rw [if_neg q3] at h
        show (¬ b2 (wi (nI (L (k + 2)) - 48) 0 2) = 0 → _) ∧ _
        rw [hnot h126 q3]
        exact ⟨fun z => absurd rfl z, fun _ => (h s7).2 rfl h7.1⟩
    · rw [if_neg q2] at h
      refine n_emitOp hA1 (by omega) (by omega) (fun s' hs' => ⟨fun z => absurd rfl z, fun _ => (h s').1 rfl hs'⟩)
