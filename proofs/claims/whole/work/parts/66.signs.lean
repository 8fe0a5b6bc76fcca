/-! signs and brackets -/
theorem n_openPush {y : RT} {vs : List Int} {ss : List Nat} {c : Nat} {w : Int32} {K : RT → Prop} (hc : c = 40 ∨ c = 105 ∨ c = 97) (hW : WS y vs ss) (hs : ss.length < 160) (h : ∀ y', SameV y y' → WS y' vs (c :: ss) → K y') : wp_X10_opens y (nI c) w K := by
  have hp : jp_X10_opens_18 (nI c) w K y := n_putsSign hW hs (by omega) h
  have ne : ∀ j : Nat, j ≤ 126 → (nI c = nI j ↔ c = j) := fun j hj => chr (by omega) hj
  refine ⟨fun _ => hp, fun a => ⟨fun _ => hp, fun b => ⟨fun d => ?_, fun _ => hp⟩⟩⟩
  have a' : ¬ c = 40 := fun z => a (by rw [z]; rfl)
  have b' : ¬ c = 105 := fun z => b (by rw [z]; rfl)
  have d' : ¬ c = 97 := fun z => d (by rw [z]; rfl)
  omega
theorem n_openComma {y : RT} {vs vs2 : List Int} {ss ss2 : List Nat} {w : Int32} {K : RT → Prop} (hW : WS y vs ss) (hv : vs.length ≤ 80) (hs : ss.length ≤ 160) (hc : carry 1 ss vs = (vs2, ss2)) (ht : topr ss2 < 1) (hs2 : ss2.length < 160) (h : ∀ y', SameV y y' → WS y' vs2 (44 :: ss2) → K y') : wp_X10_opens y (nI 44) w K := by
  refine ⟨fun z => absurd z (by decide), fun _ => ⟨fun z => absurd z (by decide), fun _ => ⟨fun _ => ⟨fun z => absurd rfl z, fun _ => ?_⟩, fun z => absurd z (by decide)⟩⟩⟩
  exact ⟨ss.length + 1, n_carriesAll (Or.inl rfl) ht ss vs y hW hc hv hs (fun y1 hy1 hW1 => n_putsSign hW1 hs2 (by decide) (fun y2 hy2 hW2 => h y2 (SameV_t hy1 hy2) hW2))⟩
theorem n_openNeg {y : RT} {vs : List Int} {ss : List Nat} {K : RT → Prop} (hW : WS y vs ss) (hs : ss.length < 160) (h : ∀ y', SameV y y' → WS y' vs (126 :: ss) → K y') : wp_X10_opens y (nI 45) 1 K := by
  refine ⟨fun z => absurd z (by decide), fun _ => ⟨fun z => absurd z (by decide), fun _ => ⟨fun _ => ⟨fun _ => ⟨fun z => absurd z (by decide), fun _ => n_putsSign hW hs (by decide) h⟩, fun z => absurd z (by decide)⟩, fun z => absurd z (by decide)⟩⟩⟩
def isOp (c : Nat) : Prop := c = 43 ∨ c = 45 ∨ c = 42 ∨ c = 47
theorem rk_op {c : Nat} (h : isOp c) : rk c = 1 ∨ rk c = 2 := by
  rcases h with h | h | h | h
  · subst h; exact Or.inl rfl
  · subst h; exact Or.inl rfl
  · subst h; exact Or.inr rfl
  · subst h; exact Or.inr rfl
theorem n_openOp {y : RT} {vs vs2 : List Int} {ss ss2 : List Nat} {c : Nat} {K : RT → Prop} (hop : isOp c) (hW : WS y vs ss) (hv : vs.length ≤ 80) (hs : ss.length ≤ 160) (hc : carry (rk c) ss vs = (vs2, ss2)) (ht : topr ss2 < rk c) (hs2 : ss2.length < 160) (h : ∀ y', SameV y y' → WS y' vs2 (c :: ss2) → K y') : wp_X10_opens y (nI c) 0 K := by
  have h126 : c ≤ 126 := by unfold isOp at hop; omega
  have ne : ∀ j : Nat, j ≤ 126 → (nI c = nI j ↔ c = j) := fun j hj => chr h126 hj
  have n1 : ∀ j : Nat, j ≤ 126 → ¬ isOp j → ¬ nI c = nI j := fun j hj q z => q (by rw [← (ne j hj).mp z]; exact hop)
  refine ⟨fun z => absurd z (n1 40 (by decide) (by unfold isOp; omega)), fun _ => ⟨fun z => absurd z (n1 105 (by decide) (by unfold isOp; omega)), fun _ => ⟨fun _ => ⟨fun _ => ⟨fun _ => n_rank h126 ?_, fun z => absurd rfl z⟩, fun z => absurd z (n1 44 (by decide) (by unfold isOp; omega))⟩, fun z => absurd z (n1 97 (by decide) (by unfold isOp; omega))⟩⟩⟩
  exact ⟨ss.length + 1, n_carriesAll (rk_op hop) ht ss vs y hW hc hv hs (fun y1 hy1 hW1 => n_putsSign hW1 hs2 h126 (fun y2 hy2 hW2 => h y2 (SameV_t hy1 hy2) hW2))⟩
section
variable {K : Int64 → RT → Prop} {m : RT} {v len : Nat} {L : Nat → Nat} {t : Int32} {vs : List Int} {ss : List Nat} {w : Int32} {k : Nat}
theorem notD {c : Nat} (h : ¬ (48 ≤ c ∧ c ≤ 57)) : isD c = false := by
  cases q : isD c with
  | false => rfl
  | true => exact absurd (isD_iff.mp q) h
theorem notN {c : Nat} (h : ¬ (120 ≤ c ∧ c ≤ 122)) : isNm c = false := by
  cases q : isNm c with
  | false => rfl
  | true => exact absurd (isNm_iff.mp q) h
theorem w_open (hL : LOK L len) (hT : TX (m.1 1) v L len) (hv : v < 3) (hk : k < len) (hc : L k = 40) (h : RunW K m v len t vs (40 :: ss) 1 (k + 1)) : RunW K m v len t vs ss w k := by
  have h80 := hL.1
  refine w_in hL hT hv hk (fun l1 l2 y k15 hy hW go => ?_)
  refine b_other (LOK_126 hL k) (notD (by omega)) (notN (by omega)) (by omega) (fun z => by omega) (fun z => by omega) (fun _ _ => ⟨fun _ => ?_, fun z => absurd ((chr (LOK_126 hL k) (by decide)).mp z) (by omega)⟩)
  rw [hc, nI_1 k]
  refine n_openPush (Or.inl rfl) hW (by omega) (fun y' hy' hW' => j311_0 ?_)
  exact go _ _ _ _ _ h (by omega) (by simp only [List.length_cons]; omega) hy' hW' (by omega)
theorem w_word {c : Nat} (hL : LOK L len) (hT : TX (m.1 1) v L len) (hv : v < 3) (hk : k < len) (hm : L k = 109) (hc : L (k + 1) = c) (hcc : c = 105 ∨ c = 97) (h : RunW K m v len t vs (c :: ss) 1 (k + 4)) : RunW K m v len t vs ss w k := by
  have h80 := hL.1
  refine w_in hL hT hv hk (fun l1 l2 y k15 hy hW go => ?_)
  have e1 : y.1 1 = m.1 1 := hy.1 1 (by decide)
  have hT' : TX (y.1 1) v L len := by rw [e1]; exact hT
  refine b_other (LOK_126 hL k) (notD (by omega)) (notN (by omega)) (by omega) (fun z => by omega) (fun _ => ⟨fun z => absurd (by rw [hm]; rfl) z, fun _ => ?_⟩) (fun _ z => absurd hm z)
  rw [nI_1 k]
  refine n_rightLetter hL hT' hv (by omega) ?_
  rw [hc, show nI k + (4 : Int32) = nI (k + 4) by rw [show (4 : Int32) = nI 4 from rfl, nI_add]]
  refine n_openPush (Or.inr hcc) hW (by omega) (fun y' hy' hW' => j311_0 ?_)
  exact go _ _ _ _ _ h (by omega) (by simp only [List.length_cons]; omega) hy' hW' (by omega)
theorem w_neg (hL : LOK L len) (hT : TX (m.1 1) v L len) (hv : v < 3) (hk : k < len) (hc : L k = 45) (h : RunW K m v len t vs (126 :: ss) 1 (k + 1)) : RunW K m v len t vs ss 1 k := by
  have h80 := hL.1
  refine w_in hL hT hv hk (fun l1 l2 y k15 hy hW go => ?_)
  refine b_other (LOK_126 hL k) (notD (by omega)) (notN (by omega)) (by omega) (fun z => by omega) (fun z => by omega) (fun _ _ => ⟨fun _ => ?_, fun z => absurd ((chr (LOK_126 hL k) (by decide)).mp z) (by omega)⟩)
  rw [hc, nI_1 k]
  refine n_openNeg hW (by omega) (fun y' hy' hW' => j311_0 ?_)
  exact go _ _ _ _ _ h (by omega) (by simp only [List.length_cons]; omega) hy' hW' (by omega)
theorem w_op {vs2 : List Int} {ss2 : List Nat} (hL : LOK L len) (hT : TX (m.1 1) v L len) (hv : v < 3) (hk : k < len) (hop : isOp (L k)) (hc : carry (rk (L k)) ss vs = (vs2, ss2)) (ht : topr ss2 < rk (L k)) (b1 : vs2.length ≤ k) (b2 : ss2.length ≤ k) (h : RunW K m v len t vs2 (L k :: ss2) 1 (k + 1)) : RunW K m v len t vs ss 0 k := by
  have h80 := hL.1
  have hop' := hop
  unfold isOp at hop'
  refine w_in hL hT hv hk (fun l1 l2 y k15 hy hW go => ?_)
  refine b_other (LOK_126 hL k) (notD (by omega)) (notN (by omega)) (by omega) (fun z => by omega) (fun z => by omega) (fun _ _ => ⟨fun _ => ?_, fun z => absurd ((chr (LOK_126 hL k) (by decide)).mp z) (by omega)⟩)
  rw [nI_1 k]
  refine n_openOp hop hW (by omega) (by omega) hc ht (by omega) (fun y' hy' hW' => j311_0 ?_)
  exact go _ _ _ _ _ h (by omega) (by simp only [List.length_cons]; omega) hy' hW' (by omega)
theorem w_comma {vs2 : List Int} {ss2 : List Nat} (hL : LOK L len) (hT : TX (m.1 1) v L len) (hv : v < 3) (hk : k < len) (hk44 : L k = 44) (hc : carry 1 ss vs = (vs2, ss2)) (ht : topr ss2 < 1) (b1 : vs2.length ≤ k) (b2 : ss2.length ≤ k) (h : RunW K m v len t vs2 (44 :: ss2) 1 (k + 1)) : RunW K m v len t vs ss 0 k := by
  have h80 := hL.1
  refine w_in hL hT hv hk (fun l1 l2 y k15 hy hW go => ?_)
  refine b_other (LOK_126 hL k) (notD (by omega)) (notN (by omega)) (by omega) (fun z => by omega) (fun z => by omega) (fun _ _ => ⟨fun _ => ?_, fun z => absurd ((chr (LOK_126 hL k) (by decide)).mp z) (by omega)⟩)
  rw [nI_1 k, hk44]
  refine n_openComma hW (by omega) (by omega) hc ht (by omega) (fun y' hy' hW' => j311_0 ?_)
  exact go _ _ _ _ _ h (by omega) (by simp only [List.length_cons]; omega) hy' hW' (by omega)
theorem w_shutP {vs0 : List Int} {ss0 : List Nat} {x : Int} {g : Nat} (hL : LOK L len) (hT : TX (m.1 1) v L len) (hv : v < 3) (hk : k < len) (hk41 : L k = 41) (hnt : ∀ r, ss0 ≠ 126 :: r) (hc : carry 1 ss vs = (x :: vs0, 40 :: (List.replicate g 126 ++ ss0))) (b1 : vs0.length + 1 ≤ k) (b2 : g + ss0.length + 1 ≤ k) (h : RunW K m v len t (ngI g x :: vs0) ss0 0 (k + 1)) : RunW K m v len t vs ss 0 k := by
  have h80 := hL.1
  refine w_in hL hT hv hk (fun l1 l2 y k15 hy hW go => ?_)
  refine b_other (LOK_126 hL k) (notD (by omega)) (notN (by omega)) (by omega) (fun z => ?_) (fun z => by omega) (fun z => absurd hk41 z)
  refine n_shutP hnt hW hc (by omega) (by omega) (by omega) (by omega) (fun y' hy' hW' => j311_1 ?_)
  exact go _ _ _ _ _ h (by simp only [List.length_cons]; omega) (by omega) hy' hW' (by omega)
theorem w_shutM {vs0 : List Int} {ss0 : List Nat} {a b : Int} {c g : Nat} (hL : LOK L len) (hT : TX (m.1 1) v L len) (hv : v < 3) (hk : k < len) (hk41 : L k = 41) (hcc : c = 105 ∨ c = 97) (hnt : ∀ r, ss0 ≠ 126 :: r) (hc : carry 1 ss vs = (b :: a :: vs0, 44 :: c :: (List.replicate g 126 ++ ss0))) (b1 : vs0.length + 2 ≤ k) (b2 : g + ss0.length + 2 ≤ k) (h : RunW K m v len t (ngI g (joinZ (if c = 105 then 7 else 8) a b) :: vs0) ss0 0 (k + 1)) : RunW K m v len t vs ss 0 k := by
  have h80 := hL.1
  refine w_in hL hT hv hk (fun l1 l2 y k15 hy hW go => ?_)
  refine b_other (LOK_126 hL k) (notD (by omega)) (notN (by omega)) (by omega) (fun z => ?_) (fun z => by omega) (fun z => absurd hk41 z)
  refine n_shutM hnt hW hcc hc (by omega) (by omega) (by omega) (by omega) (fun y' hy' hW' => j311_1 ?_)
  exact go _ _ _ _ _ h (by simp only [List.length_cons]; omega) (by omega) hy' hW' (by omega)
end
