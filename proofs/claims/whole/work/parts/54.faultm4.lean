/-! the reference looks for the fault: the same as the plain reader -/
def Stop (L : Nat → Nat) (k : Nat) : Prop := L k ≠ 42 ∧ L k ≠ 47
def Stop4 (L : Nat → Nat) (k : Nat) : Prop := Stop L k ∧ L k ≠ 43 ∧ L k ≠ 45
theorem row_stop {U : Nat → RP} {L : Nat → Nat} {len a b ka kb : Nat} {Q : Nat → Prop} (hL : LOK L len) (ha : a ≠ 0) (hb : b ≠ 0) (hU : SOK U L len) (hQ : ∀ k, k ≤ len → (U k).1 = true → Q (U k).2.1) : ∀ m k c, k ≤ len → len ≤ k + m → Q k → (rowP U L a b ka kb m k c).1 = true → Q (rowP U L a b ka kb m k c).2.1 ∧ L (rowP U L a b ka kb m k c).2.1 ≠ a ∧ L (rowP U L a b ka kb m k c).2.1 ≠ b := by
  intro m
  induction m with
  | zero =>
    intro k c h1 h2 h3 _
    have := hL.2.2 k (by omega)
    exact ⟨h3, by show L k ≠ a; omega, by show L k ≠ b; omega⟩
  | succ m ih =>
    intro k c h1 h2 h3
    unfold rowP
    by_cases q : L k = a ∨ L k = b
    · rw [if_pos q]
      have hk := LOK_lt hL (k := k) (by omega)
      by_cases q2 : (U (k + 1)).1 = true
      · rw [if_pos q2]
        have := hU (k + 1) (by omega) q2
        exact ih _ _ (by omega) (by omega) (hQ (k + 1) (by omega) q2)
      · rw [if_neg q2]; intro h; exact absurd h (by simp)
    · rw [if_neg q]; intro _; exact ⟨h3, fun e => q (Or.inl e), fun e => q (Or.inr e)⟩
theorem term_stop {S : Nat → RP} {o : Bool} {L : Nat → Nat} {len k : Nat} (hL : LOK L len) (hS : o = true → SOK S L len) (hk : k ≤ len) (h : (termP S o L k).1 = true) : Stop L (termP S o L k).2.1 := by
  have h80 := hL.1
  unfold termP at h ⊢
  by_cases q : (unitP S o L k).1 = true
  · rw [if_pos q] at h ⊢
    have a1 := unit_ok hL hS hk q
    exact (row_stop (Q := fun _ => True) hL (by omega) (by omega) (fun k hk => unit_ok hL hS hk) (fun _ _ _ => trivial) 80 _ _ a1.2.1 (by omega) trivial h).2
  · rw [if_neg q] at h; exact absurd h (by simp)
theorem sumF_stop {S : Nat → RP} {o : Bool} {L : Nat → Nat} {len k : Nat} (hL : LOK L len) (hS : o = true → SOK S L len) (hk : k ≤ len) (h : (sumF S o L k).1 = true) : Stop4 L (sumF S o L k).2.1 := by
  have h80 := hL.1
  unfold sumF at h ⊢
  by_cases q : (termP S o L k).1 = true
  · rw [if_pos q] at h ⊢
    have a1 := term_ok hL hS hk q
    exact row_stop (Q := Stop L) hL (by omega) (by omega) (fun k hk => term_ok hL hS hk) (fun k hk e => term_stop hL hS hk e) 80 _ _ a1.2.1 (by omega) (term_stop hL hS hk q) h
  · rw [if_neg q] at h; exact absurd h (by simp)
def SM (K : Int32 → RT → Prop) (S : Nat → RP) (L : Nat → Nat) (len o : Nat) : Prop := ∀ y k, MT y L len → k ≤ len → PostM K len y o (S k) → Run K len y o 1 k
def SMB (K : Int32 → RT → Prop) (S : Nat → RP) (L : Nat → Nat) (len o : Nat) : Prop := ∀ y k, MT y L len → k ≤ len → L k ≠ 45 → PostM K len y o (S k) → Run K len y o 1 k
theorem ngN_stop {L : Nat → Nat} {len : Nat} (hL : LOK L len) : ∀ m k, len ≤ k + m → L (k + ngN L m k) ≠ 45 := by
  intro m
  induction m with
  | zero =>
    intro k h
    have := hL.2.2 k (by omega)
    show L k ≠ 45
    omega
  | succ m ih =>
    intro k h
    unfold ngN
    by_cases q : L k = 45
    · rw [if_pos q, show k + (ngN L m (k + 1) + 1) = k + 1 + ngN L m (k + 1) by omega]
      exact ih (k + 1) (by omega)
    · rw [if_neg q]; exact q
theorem row_M {K : Int32 → RT → Prop} {U : Nat → RP} {L : Nat → Nat} {len a b ka kb o : Nat} (hL : LOK L len) (ha : a ≠ 0) (hb : b ≠ 0) (hop : ∀ k, L k = a ∨ L k = b → L k = 43 ∨ L k = 45 ∨ L k = 42 ∨ L k = 47) (hU : SM K U L len o) (hok : SOK U L len) : ∀ m k c y, MT y L len → k ≤ len → PostM K len y o (rowP U L a b ka kb m k c) → Run K len y o 0 k := by
  intro m
  induction m with
  | zero => intro k c y hM hk h; exact (h y (SameG_r y) (fun _ _ => rfl)).1 rfl
  | succ m ih =>
    intro k c y hM hk h
    unfold rowP at h
    by_cases q : L k = a ∨ L k = b
    · rw [if_pos q] at h
      have hk2 := LOK_lt hL (k := k) (by omega)
      refine run_op hL hM (hop k q) (hU y (k + 1) hM (by omega) (fun y' hy hs => ⟨fun q2 => ?_, fun q2 => ?_⟩))
      · rw [if_pos q2] at h
        have ok := hok (k + 1) (by omega) q2
        exact ih _ _ y' (MT_G hM hy) ok.2.1 (fun y2 hy2 hs2 => h y2 (SameG_t hy hy2) (fun i hi => (hs2 i hi).trans (hs i hi)))
      · rw [if_neg (by rw [q2]; decide)] at h
        exact (h y' hy hs).2 rfl
    · rw [if_neg q] at h
      exact (h y (SameG_r y) (fun _ _ => rfl)).1 rfl
theorem unit_M {K : Int32 → RT → Prop} {S : Nat → RP} {L : Nat → Nat} {len o : Nat} {b : Bool} (hL : LOK L len) (hB : SMB K (bareP S b L) L len o) : SM K (unitP S b L) L len o := by
  intro y k hM hk h
  unfold unitP at h
  have hg := ngN_len hL 80 k hk
  have hneg : ∀ m k, Run K len y o 1 (k + ngN L m k) → Run K len y o 1 k := by
    intro m
    induction m with
    | zero => intro k h; exact h
    | succ m ih =>
      intro k h
      unfold ngN at h
      by_cases q : L k = 45
      · rw [if_pos q, show k + (ngN L m (k + 1) + 1) = k + 1 + ngN L m (k + 1) by omega] at h
        exact run_neg hL hM q (ih (k + 1) h)
      · rw [if_neg q] at h; exact h
  refine hneg 80 k (hB y _ hM hg (ngN_stop hL 80 k (by have := hL.1; omega)) (fun y' hy hs => ⟨fun q => ?_, fun q => ?_⟩))
  · rw [if_pos q] at h
    exact (h y' hy hs).1 rfl
  · rw [if_neg (by rw [q]; decide)] at h
    exact (h y' hy hs).2 rfl
theorem term_M {K : Int32 → RT → Prop} {S : Nat → RP} {L : Nat → Nat} {len o : Nat} {b : Bool} (hL : LOK L len) (hS : b = true → SOK S L len) (hB : SMB K (bareP S b L) L len o) : SM K (termP S b L) L len o := by
  intro y k hM hk h
  unfold termP at h
  refine unit_M hL hB y k hM hk (fun y' hy hs => ⟨fun q => ?_, fun q => ?_⟩)
  · rw [if_pos q] at h
    have ok := unit_ok hL hS hk q
    exact row_M hL (by omega) (by omega) (fun k e => by omega) (unit_M hL hB) (fun k hk => unit_ok hL hS hk) 80 _ _ y' (MT_G hM hy) ok.2.1 (fun y2 hy2 hs2 => h y2 (SameG_t hy hy2) (fun i hi => (hs2 i hi).trans (hs i hi)))
  · rw [if_neg (by rw [q]; decide)] at h
    exact (h y' hy hs).2 rfl
theorem sumF_M {K : Int32 → RT → Prop} {S : Nat → RP} {L : Nat → Nat} {len o : Nat} {b : Bool} (hL : LOK L len) (hS : b = true → SOK S L len) (hB : SMB K (bareP S b L) L len o) : SM K (sumF S b L) L len o := by
  intro y k hM hk h
  unfold sumF at h
  refine term_M hL hS hB y k hM hk (fun y' hy hs => ⟨fun q => ?_, fun q => ?_⟩)
  · rw [if_pos q] at h
    have ok := term_ok hL hS hk q
    exact row_M hL (by omega) (by omega) (fun k e => by omega) (term_M hL hS hB) (fun k hk => term_ok hL hS hk) 80 _ _ y' (MT_G hM hy) ok.2.1 (fun y2 hy2 hs2 => h y2 (SameG_t hy hy2) (fun i hi => (hs2 i hi).trans (hs i hi)))
  · rw [if_neg (by rw [q]; decide)] at h
    exact (h y' hy hs).2 rfl
