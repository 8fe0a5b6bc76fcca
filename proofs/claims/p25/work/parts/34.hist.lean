/-! the histories -/
theorem l2i_iz (x : Int64) : x.toInt32 = iz x.toInt := i_ext (by rw [Int64.toInt_toInt32, Int32.toInt_ofInt])
theorem i2l_lz (x : Int32) : x.toInt64 = lz x.toInt := l_ext (by rw [i2l, lz_toInt]; have := i_in x; exact ⟨by have := this.1; omega, by have := this.2; omega⟩)
def upN (f : Nat → Int32) (t : Int32) (c : Nat) : Nat → Nat → Nat
  | 0, k => k
  | n + 1, k => if c ≤ k then k else if t < f k then k else upN f t c n (k + 1)
def upT (f : Nat → Int32) (t : Int32) (c : Nat) : Nat := upN f t c c 0
theorem upN_ok {f : Nat → Int32} {t : Int32} {c : Nat} : ∀ (n k : Nat), k + n = c → (∀ j, j < k → ¬ t < f j) → upN f t c n k ≤ c ∧ (∀ j, j < upN f t c n k → ¬ t < f j) ∧ (upN f t c n k < c → t < f (upN f t c n k)) := by
  intro n
  induction n with
  | zero => intro k h1 h2; exact ⟨by simp only [upN]; omega, by simpa only [upN] using h2, by simp only [upN]; omega⟩
  | succ n ih =>
    intro k h1 h2
    unfold upN
    rw [if_neg (by omega)]
    by_cases h : t < f k
    · rw [if_pos h]; exact ⟨by omega, h2, fun _ => h⟩
    · rw [if_neg h]
      refine ih (k + 1) (by omega) (fun j hj => ?_)
      by_cases e : j = k
      · subst e; exact h
      · exact h2 j (by omega)
theorem upT_ok (f : Nat → Int32) (t : Int32) (c : Nat) : upT f t c ≤ c ∧ (∀ j, j < upT f t c → ¬ t < f j) ∧ (upT f t c < c → t < f (upT f t c)) := upN_ok c 0 (by omega) (fun j hj => by omega)
def hvZ (c : Nat) (T V : Nat → Int32) (t : Int32) : Int := if c = 0 then 0 else if upT T t c = 0 then (V 0).toInt else if upT T t c = c then (V (upT T t c - 1)).toInt else ((V (upT T t c - 1)).toInt64 + (((V (upT T t c)).toInt64 - (V (upT T t c - 1)).toInt64) * (t.toInt64 - (T (upT T t c - 1)).toInt64)) / ((T (upT T t c)).toInt64 - (T (upT T t c - 1)).toInt64)).toInt
def hsZ (c : Nat) (T V : Nat → Int32) (t : Int32) : Int := if upT T t c = 0 then 0 else if upT T t c = c then 0 else ((((V (upT T t c)).toInt64 - (V (upT T t c - 1)).toInt64) * (1000 : Int64)) / ((T (upT T t c)).toInt64 - (T (upT T t c - 1)).toInt64)).toInt
def HX (s : RT) (c : Nat → Nat) (T V : Nat → Nat → Int32) : Prop := ∀ v, v < 3 → s.1 9 v = nI (c v) ∧ ∀ k, k < c v → s.1 10 (v * 6 + k) = T v k ∧ s.1 11 (v * 6 + k) = V v k
def HOK (c : Nat → Nat) (T V : Nat → Nat → Int32) : Prop := ∀ v, v < 3 → c v ≤ 6 ∧ (∀ k, k < c v → -10000 ≤ (T v k).toInt ∧ (T v k).toInt ≤ 0 ∧ -1000000 ≤ (V v k).toInt ∧ (V v k).toInt ≤ 1000000) ∧ ∀ k, k + 1 < c v → T v k < T v (k + 1)
theorem HOK_mono {c : Nat → Nat} {T V : Nat → Nat → Int32} (h : HOK c T V) {v : Nat} (hv : v < 3) {i j : Nat} (hij : i < j) (hj : j < c v) : (T v i).toInt < (T v j).toInt := by
  induction j with
  | zero => omega
  | succ j ih =>
    have h1 := i_lt.mp ((h v hv).2.2 j hj)
    by_cases e : i = j
    · subst e; exact h1
    · have := ih (by omega) (by omega); omega
theorem ix6 (v k : Nat) : nI v * 6 + nI k = nI (v * 6 + k) := by rw [show (6 : Int32) = nI 6 from rfl, pk_mul, nI_add]
theorem n_up {s : RT} {c : Nat → Nat} {T V : Nat → Nat → Int32} {v : Nat} {t : Int32} {K : Int32 → Prop} (hX : HX s c T V) (hO : HOK c T V) (hv : v < 3) (h : K (nI (upT (T v) t (c v)))) : wp_X1_pointsUpTo s (nI v) t K := by
  have h6 := (hO v hv).1
  refine n_pick (by decide) ?_
  rw [pk_n (by decide) hv, (hX v hv).1]
  intro x2 hx2
  have e2 : x2 = nI (c v) := by
    rw [hx2, show (6 : Int32) = nI 6 from rfl]
    by_cases q : c v < 6
    · rw [if_pos ((nI_ltI (by omega) (by decide)).mpr q)]
    · rw [if_neg (fun w => q ((nI_ltI (by omega) (by decide)).mp w)), show c v = 6 by omega]
  subst e2
  have key : ∀ n k, k + n = c v → upN (T v) t (c v) n k = upT (T v) t (c v) → lp_X1_pointsUpTo_17 s (nI v) t K (n + 1) (nI (c v)) (nI k) := by
    intro n
    induction n with
    | zero =>
      intro k h1 h2
      refine ⟨fun _ => ?_, fun q => absurd (nI_le (show c v ≤ k by omega) (by omega)) q⟩
      rw [← h2] at h; exact h
    | succ n ih =>
      intro k h1 h2
      unfold upN at h2
      rw [if_neg (by omega)] at h2
      refine ⟨fun q => absurd ((nI_leI (by omega) (by omega)).mp q) (by omega), fun _ => ?_⟩
      rw [ix6]
      refine n_pick (by decide) ?_
      rw [pk_n (by decide) (by omega), ((hX v hv).2 k (by omega)).1]
      refine ⟨fun q => ?_, fun q x6 hx6 => ?_⟩
      · rw [if_pos q] at h2; rw [← h2] at h; exact h
      · rw [if_neg q] at h2
        have e6 : x6 = nI (k + 1) := hx6.trans (nI_1 k)
        subst e6
        exact ih (k + 1) (by omega) h2
  exact ⟨c v + 1, key (c v) 0 (by omega) rfl⟩
theorem sub_ne {a b : Int32} (h : a < b) : ¬ b.toInt64 - a.toInt64 = 0 := by
  rw [l_eq, l_sub (i2l b) (i2l a) (by have h1 := i_in a; have h2 := i_in b; exact ⟨by have := h1.2; have := h2.1; omega, by have := h1.1; have := h2.2; omega⟩)]
  rw [i_lt] at h
  simp only [Int64.toInt_zero]
  omega
theorem n_valueAtX {s : RT} {c : Nat → Nat} {T V : Nat → Nat → Int32} {v : Nat} {t : Int32} {K : Int32 → Prop} (hX : HX s c T V) (hO : HOK c T V) (hv : v < 3) (h : K (iz (hvZ (c v) (T v) (V v) t))) : wp_X1_valueAt s (nI v) t K := by
  have h6 := (hO v hv).1
  refine n_pick (by decide) ?_
  rw [pk_n (by decide) hv, (hX v hv).1]
  unfold hvZ at h
  refine ⟨fun q => n_up hX hO hv ?_, fun q => ?_⟩
  · have c0 : c v ≠ 0 := fun e => q (by rw [e]; rfl)
    rw [if_neg c0] at h
    obtain ⟨u1, u2, u3⟩ := upT_ok (T v) t (c v)
    generalize upT (T v) t (c v) = u at h u1 u2 u3
    intro x4 hx4
    rw [ix6] at hx4
    subst hx4
    refine ⟨fun q2 => ?_, fun q2 => ?_⟩
    · have u0 : u ≠ 0 := fun e => q2 (by rw [e]; rfl)
      rw [if_neg u0] at h
      have e1 : nI (v * 6 + u) - 1 = nI (v * 6 + (u - 1)) := by rw [show (1 : Int32) = nI 1 from rfl, pk_sub (by omega)]; congr 1; omega
      rw [e1]
      refine n_pick (by decide) ?_
      rw [pk_n (by decide) (by omega), ((hX v hv).2 (u - 1) (by omega)).2]
      intro x7 hx7
      subst hx7
      refine ⟨fun q3 => ?_, fun q3 => ?_⟩
      · have uc : u ≠ c v := fun e => q3 (by rw [e])
        rw [if_neg uc] at h
        refine n_pick (by decide) ?_
        rw [pk_n (by decide) (by omega), ((hX v hv).2 (u - 1) (by omega)).1]
        intro x10 hx10
        subst hx10
        refine n_pick (by decide) ?_
        rw [pk_n (by decide) (by omega), ((hX v hv).2 u (by omega)).2]
        intro x12 hx12
        subst hx12
        refine n_pick (by decide) ?_
        rw [pk_n (by decide) (by omega), ((hX v hv).2 u (by omega)).1]
        have hlt : T v (u - 1) < T v u := by have := (hO v hv).2.2 (u - 1) (by omega); rwa [show u - 1 + 1 = u by omega] at this
        refine n_quot ?_
        rw [if_neg (sub_ne hlt), l2i_iz]
        exact h
      · have uc : u = c v := (nI_eq (by omega) (by omega)).mp q3
        rw [if_pos uc] at h
        rw [l2i_iz, i2l]; exact h
    · have u0 : u = 0 := (nI_eq (by omega) (by decide)).mp q2
      rw [if_pos u0] at h
      refine n_pick (by decide) ?_
      rw [pk_n (by decide) (by omega), ((hX v hv).2 u (by omega)).2, u0]
      rw [iz_of] at h; exact h
  · have c0 : c v = 0 := (nI_eq (by omega) (by decide)).mp q
    rw [if_pos c0] at h; exact h
theorem n_slopeAtX {s : RT} {c : Nat → Nat} {T V : Nat → Nat → Int32} {v : Nat} {t : Int32} {K : Int32 → Prop} (hX : HX s c T V) (hO : HOK c T V) (hv : v < 3) (h : K (iz (hsZ (c v) (T v) (V v) t))) : wp_X1_slopeAt s (nI v) t K := by
  have h6 := (hO v hv).1
  refine n_up hX hO hv ?_
  unfold hsZ at h
  obtain ⟨u1, u2, u3⟩ := upT_ok (T v) t (c v)
  generalize upT (T v) t (c v) = u at h u1 u2 u3
  refine ⟨fun q2 => ?_, fun q2 => ?_⟩
  · have u0 : u = 0 := (nI_eq (by omega) (by decide)).mp q2
    rw [if_pos u0] at h; exact h
  · have u0 : u ≠ 0 := fun e => q2 (by rw [e]; rfl)
    rw [if_neg u0] at h
    refine n_pick (by decide) ?_
    rw [pk_n (by decide) hv, (hX v hv).1]
    refine ⟨fun q3 => ?_, fun q3 => ?_⟩
    · have uc : u ≠ c v := fun e => q3 (by rw [e])
      rw [if_neg uc] at h
      intro x5 hx5
      rw [ix6] at hx5
      subst hx5
      have e1 : nI (v * 6 + u) - 1 = nI (v * 6 + (u - 1)) := by rw [show (1 : Int32) = nI 1 from rfl, pk_sub (by omega)]; congr 1; omega
      rw [e1]
      refine n_pick (by decide) (n_pick (by decide) ?_)
      rw [pk_n (by decide) (by omega), ((hX v hv).2 u (by omega)).2]
      rw [pk_n (by decide) (by omega), ((hX v hv).2 (u - 1) (by omega)).2]
      intro x8 hx8
      subst hx8
      refine n_pick (by decide) (n_pick (by decide) ?_)
      rw [pk_n (by decide) (by omega), ((hX v hv).2 u (by omega)).1]
      rw [pk_n (by decide) (by omega), ((hX v hv).2 (u - 1) (by omega)).1]
      have hlt : T v (u - 1) < T v u := by have := (hO v hv).2.2 (u - 1) (by omega); rwa [show u - 1 + 1 = u by omega] at this
      have es : (T v u - T v (u - 1)).toInt64 = (T v u).toInt64 - (T v (u - 1)).toInt64 := by
        have h1 := (hO v hv).2.1 u (by omega)
        have h2 := (hO v hv).2.1 (u - 1) (by omega)
        apply l_ext
        rw [i2l, i_sub rfl rfl ⟨by omega, by omega⟩, l_sub (i2l _) (i2l _) ⟨by omega, by omega⟩]
      rw [es]
      refine n_quot ?_
      rw [if_neg (sub_ne hlt), l2i_iz]
      exact h
    · have uc : u = c v := (nI_eq (by omega) (by omega)).mp q3
      rw [if_pos uc] at h; exact h
