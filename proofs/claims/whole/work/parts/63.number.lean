/-! the reference's numbers and letters in a right side -/
def TX (f : Nat → Int32) (v : Nat) (L : Nat → Nat) (len : Nat) : Prop := f (48 + 81 * v) = nI len ∧ ∀ i, i < len → f (49 + 81 * v + i) = nI (L i)
theorem ixR0 (v : Nat) : (48 : Int32) + (81 : Int32) * nI v = nI (48 + 81 * v) := by rw [show (48 : Int32) = nI 48 from rfl, show (81 : Int32) = nI 81 from rfl, pk_mul, nI_add]
theorem ixR1 (v k : Nat) : (48 : Int32) + (81 : Int32) * nI v + 1 + nI k = nI (49 + 81 * v + k) := by
  rw [ixR0, nI_1, nI_add]; congr 1; omega
theorem n_rightLetter {s : RT} {v : Nat} {L : Nat → Nat} {len k : Nat} {K : Int32 → Prop} (hL : LOK L len) (hT : TX (s.1 1) v L len) (hv : v < 3) (hk : k < 1000) (h : K (nI (L k))) : wp_X10_rightLetter s (nI v) (nI k) K := by
  have h80 := hL.1
  unfold wp_X10_rightLetter
  rw [ixR1, ixR0, nI_clamp (by omega), hT.1]
  refine ⟨vp_in_nI (by omega) (by decide), fun q => ?_, fun q => ?_⟩
  · have := (nI_leI (by omega) (by omega)).mp q
    rw [hL.2.2 k this] at h; exact h
  · have hlt : k < len := by
      rcases Nat.lt_or_ge k len with w | w
      · exact w
      · exact absurd (nI_le w (by omega)) q
    rw [nI_clamp (by omega), hT.2 k hlt]
    exact ⟨vp_in_nI (by omega) (by decide), h⟩
theorem nI_sub48 {c : Nat} (h : 48 ≤ c) : nI c - 48 = nI (c - 48) := by rw [show (48 : Int32) = nI 48 from rfl, pk_sub h]
theorem nI_lz {n : Nat} (h : n < 2147483648) : (nI n).toInt64 = lz (n : Int) := by rw [i2l_lz, nI_int h]
theorem lz_dig {a c : Nat} (hc : 48 ≤ c) : (10 : Int64) * lz (a : Int) + lz (c : Int) - 48 = lz ((a * 10 + (c - 48) : Nat) : Int) := by
  have e : ((a * 10 + (c - 48) : Nat) : Int) = 10 * (a : Int) + (c : Int) - 48 := by omega
  rw [e]
  show _ = Int64.ofInt _
  rw [Int64.ofInt_sub, Int64.ofInt_add, Int64.ofInt_mul]
  rfl
theorem lz_dig2 {a d : Nat} : (10 : Int64) * lz (a : Int) + lz (d : Int) = lz ((a * 10 + d : Nat) : Int) := by
  have e : ((a * 10 + d : Nat) : Int) = 10 * (a : Int) + (d : Int) := by omega
  rw [e]
  show _ = Int64.ofInt _
  rw [Int64.ofInt_add, Int64.ofInt_mul]
  rfl
theorem dgN_end {L : Nat → Nat} : ∀ m k, dgN L m k < m → isD (L (k + dgN L m k)) = false := by
  intro m
  induction m with
  | zero => intro k h; exact absurd h (by omega)
  | succ m ih =>
    intro k h
    rw [dgN_s] at h ⊢
    by_cases q : isD (L k) = true
    · rw [if_pos q] at h ⊢
      have := ih (k + 1) (by omega)
      rw [show k + (dgN L m (k + 1) + 1) = k + 1 + dgN L m (k + 1) by omega]
      exact this
    · rw [if_neg q]; simpa using q
theorem n_frac {s : RT} {v : Nat} {L : Nat → Nat} {len k0 : Nat} {K : Int64 → Prop} (hL : LOK L len) (hT : TX (s.1 1) v L len) (hv : v < 3) : ∀ (r : Nat) (a q i : Nat) (b : Bool), r + i = 3 → q + r < 900 → K (lz ((if b then frV L (dgN L r (q + 1)) (q + 1) (a * 10 ^ r) (10 ^ (r - 1)) else a * 10 ^ r : Nat) : Int)) → lp_X10_numberAt_65 s (nI v) (nI k0) K (r + 1) (lz (a : Int)) (nI q) (b2 b) (nI i) := by
  intro r
  induction r with
  | zero =>
    intro a q i b h1 h2 h
    have e : i = 3 := by omega
    subst e
    refine ⟨fun _ => ?_, fun z => absurd (nI_le (Nat.le_refl 3) (by decide)) z⟩
    rw [show (10 : Nat) ^ 0 = 1 from rfl, Nat.mul_one] at h
    cases b
    · exact h
    · exact h
  | succ r ih =>
    intro a q i b h1 h2 h
    have e3 : ¬ (3 : Int32) ≤ nI i := fun z => by have := (nI_leI (a := 3) (by decide) (by omega)).mp z; omega
    have e1 : nI i + 1 = nI (i + 1) := nI_1 i
    refine ⟨fun z => absurd z e3, fun _ => ?_⟩
    -- no more digits
    have hno : ∀ q', q' + r < 900 → K (lz ((a * 10 ^ (r + 1) : Nat) : Int)) → jp_X10_numberAt_108 s (nI v) (nI k0) K (fun v0 v1 v2 v3 => lp_X10_numberAt_65 s (nI v) (nI k0) K (r + 1) v0 v1 v2 v3) (lz (a : Int)) (nI q') (nI i) := by
      intro q' hq' hK
      refine ⟨fun _ x11 h11 x12 h12 => ?_, fun z => absurd rfl z⟩
      have e12 : x12 = nI (i + 1) := h12.trans e1
      have e11 : x11 = lz ((a * 10 : Nat) : Int) := by
        rw [h11]
        exact lz_dig2 (d := 0)
      subst e11; subst e12
      refine ih (a * 10) q' (i + 1) false (by omega) hq' ?_
      have e : a * 10 * 10 ^ r = a * 10 ^ (r + 1) := by rw [Nat.pow_succ, Nat.mul_assoc, Nat.mul_comm 10]
      show K (lz ((a * 10 * 10 ^ r : Nat) : Int))
      rw [e]; exact hK
    cases b with
    | false =>
      refine ⟨fun _ x8 h8 => ?_, fun z => absurd rfl z⟩
      have e8 : x8 = nI q := by rw [h8]; exact Int32.add_zero _
      subst e8
      exact ⟨fun _ => hno q (by omega) h, fun z => absurd rfl z⟩
    | true =>
      refine ⟨fun z => absurd z (by decide), fun _ x8 h8 => ?_⟩
      have e8 : x8 = nI (q + 1) := h8.trans (nI_1 q)
      subst e8
      refine ⟨fun z => absurd z (by decide), fun _ => n_rightLetter hL hT hv (by omega) (n_isDigitM (LOK_126 hL _) ?_)⟩
      have h' : K (lz ((frV L (dgN L (r + 1) (q + 1)) (q + 1) (a * 10 ^ (r + 1)) (10 ^ r) : Nat) : Int)) := h
      rw [dgN_s] at h'
      by_cases w : isD (L (q + 1)) = true
      · rw [if_pos w] at h'
        rw [w]
        refine ⟨fun z => absurd z (by decide), fun _ => ⟨fun z => absurd z (by decide), fun _ => n_rightLetter hL hT hv (by omega) ?_⟩⟩
        have hd := isD_iff.mp w
        intro x11 h11 x12 h12
        have e12 : x12 = nI (i + 1) := h12.trans e1
        have e11 : x11 = lz ((a * 10 + (L (q + 1) - 48) : Nat) : Int) := by
          rw [h11, nI_sub48 hd.1, nI_lz (by omega)]
          exact lz_dig2
        subst e11; subst e12
        refine ih (a * 10 + (L (q + 1) - 48)) (q + 1) (i + 1) true (by omega) (by omega) ?_
        show K (lz ((frV L (dgN L r (q + 2)) (q + 2) ((a * 10 + (L (q + 1) - 48)) * 10 ^ r) (10 ^ (r - 1)) : Nat) : Int))
        have h2' : K (lz ((frV L (dgN L r (q + 2)) (q + 2) (a * 10 ^ (r + 1) + (L (q + 1) - 48) * 10 ^ r) (10 ^ r / 10) : Nat) : Int)) := h'
        have e : (a * 10 + (L (q + 1) - 48)) * 10 ^ r = a * 10 ^ (r + 1) + (L (q + 1) - 48) * 10 ^ r := by rw [Nat.add_mul, Nat.pow_succ, Nat.mul_assoc, Nat.mul_comm 10]
        rw [e]
        match r, h2' with
        | 0, h2' => exact h2'
        | r + 1, h2' =>
          have ed : (10 : Nat) ^ (r + 1) / 10 = 10 ^ (r + 1 - 1) := by
            rw [Nat.pow_succ 10 r, Nat.mul_div_cancel _ (show 0 < 10 by decide)]; rfl
          rw [ed] at h2'
          exact h2'
      · rw [if_neg w] at h'
        have w' : isD (L (q + 1)) = false := by simpa using w
        rw [w']
        exact ⟨fun _ => hno (q + 1) (by omega) h', fun z => absurd rfl z⟩
theorem n_digs {s : RT} {v : Nat} {L : Nat → Nat} {len k0 : Nat} {K : Int64 → Prop} (hL : LOK L len) (hT : TX (s.1 1) v L len) (hv : v < 3) : ∀ (m k a : Nat), (∀ j, j < m → isD (L (k + j)) = true) → isD (L (k + m)) = false → k + m < 500 →
    (L (k + m) = 46 → K (lz ((frV L (dgN L 3 (k + m + 1)) (k + m + 1) (accV L m k a * 1000) 100 : Nat) : Int))) → (L (k + m) ≠ 46 → K (lz ((accV L m k a * 1000 : Nat) : Int))) → lp_X10_numberAt_5 s (nI v) (nI k0) K (m + 1) (lz (a : Int)) (nI k) := by
  intro m
  induction m with
  | zero =>
    intro k a h1 h2 h3 h4 h5
    refine n_rightLetter hL hT hv (by omega) (n_isDigitM (LOK_126 hL _) ?_)
    have h2' : isD (L k) = false := h2
    rw [h2']
    refine ⟨fun _ => n_rightLetter hL hT hv (by omega) ⟨fun q => ⟨4, ?_⟩, fun q => ⟨4, ?_⟩⟩, fun z => absurd rfl z⟩
    · exact n_frac hL hT hv 3 a k 0 false rfl (by omega) (h5 (fun w => q (by rw [show k = k + 0 from rfl, w]; rfl)))
    · exact n_frac hL hT hv 3 a k 0 true rfl (by omega) (h4 ((chr (LOK_126 hL _) (by decide)).mp q))
  | succ m ih =>
    intro k a h1 h2 h3 h4 h5
    have w : isD (L k) = true := h1 0 (by omega)
    have hd := isD_iff.mp w
    refine n_rightLetter hL hT hv (by omega) (n_isDigitM (LOK_126 hL _) ?_)
    rw [w]
    refine ⟨fun z => absurd z (by decide), fun _ => n_rightLetter hL hT hv (by omega) (fun x18 h18 x19 h19 => ?_)⟩
    have e19 : x19 = nI (k + 1) := h19.trans (nI_1 k)
    have e18 : x18 = lz ((a * 10 + (L k - 48) : Nat) : Int) := by
      rw [h18, nI_lz (by omega)]
      exact lz_dig hd.1
    subst e18; subst e19
    have ek : k + 1 + m = k + (m + 1) := by omega
    refine ih (k + 1) _ (fun j hj => ?_) (by rw [ek]; exact h2) (by omega) (fun q => ?_) (fun q => ?_)
    · have := h1 (j + 1) (by omega)
      rw [show k + 1 + j = k + (j + 1) by omega]; exact this
    · rw [ek] at q ⊢; exact h4 q
    · rw [ek] at q; exact h5 q
theorem n_numberAt {s : RT} {v : Nat} {L : Nat → Nat} {len k V : Nat} {K : Int64 → Prop} (hL : LOK L len) (hT : TX (s.1 1) v L len) (hv : v < 3) (hk : k < 400) (hg : (numP L k).1 = true) (hF : isD (L (numP L k).2.1) = false ∧ L (numP L k).2.1 ≠ 46) (hc : (numP L k).2.2 = [(0, V)]) (h : K (lz (V : Int))) : wp_X10_numberAt s (nI v) (nI k) K := by
  have h4 := dgN_le (L := L) 4 k
  have hn : isD (L (k + dgN L 4 k)) = false := by
    unfold numP at hF
    by_cases q : L (k + dgN L 4 k) = 46
    · rw [q]; rfl
    · rw [if_neg q] at hF; exact hF.1
  refine ⟨dgN L 4 k + 1, n_digs hL hT hv _ k 0 (fun j hj => dgN_dig 4 k j hj) hn (by omega) (fun q => ?_) (fun q => ?_)⟩
  · unfold numP at hc hg
    rw [if_pos q] at hc hg
    by_cases q2 : dgN L 3 (k + dgN L 4 k + 1) = 0
    · rw [if_pos q2] at hg; exact absurd hg (by simp)
    · rw [if_neg q2] at hc
      have e : frV L (dgN L 3 (k + dgN L 4 k + 1)) (k + dgN L 4 k + 1) (accV L (dgN L 4 k) k 0 * 1000) 100 = V := by
        have := (List.cons.inj hc).1
        exact (Prod.mk.inj this).2
      rw [e]; exact h
  · unfold numP at hc
    rw [if_neg q] at hc
    have e : accV L (dgN L 4 k) k 0 * 1000 = V := by
      have := (List.cons.inj hc).1
      exact (Prod.mk.inj this).2
    rw [e]; exact h
theorem num_chars {L : Nat → Nat} {k j : Nat} (hg : (numP L k).1 = true) (h1 : k ≤ j) (h2 : j < (numP L k).2.1) : isD (L j) = true ∨ L j = 46 := by
  have dg : ∀ m k a, k ≤ a → a < k + dgN L m k → isD (L a) = true := fun m k a q1 q2 => by
    have := dgN_dig (L := L) m k (a - k) (by omega)
    rw [show k + (a - k) = a by omega] at this
    exact this
  unfold numP at hg h2
  by_cases q : L (k + dgN L 4 k) = 46
  · rw [if_pos q] at hg h2
    by_cases q2 : dgN L 3 (k + dgN L 4 k + 1) = 0
    · rw [if_pos q2] at hg; exact absurd hg (by simp)
    · rw [if_neg q2] at h2
      have h3 : j < k + dgN L 4 k + 1 + dgN L 3 (k + dgN L 4 k + 1) := h2
      by_cases e1 : j < k + dgN L 4 k
      · exact Or.inl (dg 4 k j h1 e1)
      · by_cases e2 : j = k + dgN L 4 k
        · exact Or.inr (by rw [e2, q])
        · exact Or.inl (dg 3 _ j (by omega) h3)
  · rw [if_neg q] at h2
    exact Or.inl (dg 4 k j h1 h2)
theorem n_behind {s : RT} {v : Nat} {L : Nat → Nat} {len k : Nat} {K : Int32 → Prop} (hL : LOK L len) (hT : TX (s.1 1) v L len) (hv : v < 3) (hk : k < 400) (hg : (numP L k).1 = true) (hF : isD (L (numP L k).2.1) = false ∧ L (numP L k).2.1 ≠ 46) (hle : k ≤ (numP L k).2.1) (h : K (nI (numP L k).2.1)) : wp_X10_behindNumber s (nI v) (nI k) K := by
  have hp := num_pos (L := L) (k := k)
  have hch := fun j => num_chars (L := L) (k := k) (j := j) hg
  generalize (numP L k).2.1 = e at hF hle h hp hch
  have key : ∀ m j, k ≤ j → j + m = e → lp_X10_behindNumber_2 s (nI v) (nI k) K (m + 1) (nI j) := by
    intro m
    induction m with
    | zero =>
      intro j h1 h2
      have : j = e := by omega
      subst this
      refine n_rightLetter hL hT hv (by omega) (n_isDigitM (LOK_126 hL _) ?_)
      rw [hF.1]
      refine ⟨fun z => absurd rfl z, fun _ => n_rightLetter hL hT hv (by omega) ⟨fun _ => h, fun z => absurd ((chr (LOK_126 hL _) (by decide)).mp z) hF.2⟩⟩
    | succ m ih =>
      intro j h1 h2
      refine n_rightLetter hL hT hv (by omega) (n_isDigitM (LOK_126 hL _) ?_)
      by_cases q : isD (L j) = true
      · rw [q]
        refine ⟨fun _ x4 h4 => ?_, fun z => absurd z (by decide)⟩
        have e4 : x4 = nI (j + 1) := h4.trans (nI_1 j)
        subst e4
        exact ih (j + 1) (by omega) (by omega)
      · have q2 : L j = 46 := (hch j h1 (by omega)).elim (fun w => absurd w q) id
        have q' : isD (L j) = false := by simpa using q
        rw [q']
        refine ⟨fun z => absurd rfl z, fun _ => n_rightLetter hL hT hv (by omega) ⟨fun z => absurd (by rw [q2]; rfl) z, fun _ x7 h7 => ?_⟩⟩
        have e7 : x7 = nI (j + 1) := h7.trans (nI_1 j)
        subst e7
        exact ih (j + 1) (by omega) (by omega)
  exact ⟨_, key (e - k) k (Nat.le_refl _) (by omega)⟩
