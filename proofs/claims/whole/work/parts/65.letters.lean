/-! what each letter does -/
theorem j311_1 {a0 a1 : Int32} {K : Int64 → RT → Prop} {k15 : Int32 → Int32 → RT → Prop} {x6 : Int32} {y : RT} (h : k15 0 x6 y) : jp_X10_worksOut_311 a0 a1 K k15 x6 1 y := ⟨fun _ => h, fun z => absurd z (by decide)⟩
theorem j311_0 {a0 a1 : Int32} {K : Int64 → RT → Prop} {k15 : Int32 → Int32 → RT → Prop} {x6 : Int32} {y : RT} (h : k15 1 x6 y) : jp_X10_worksOut_311 a0 a1 K k15 x6 0 y := ⟨fun z => absurd rfl z, fun _ => h⟩
def Fol (L : Nat → Nat) (k : Nat) : Prop := isD (L k) = false ∧ L k ≠ 46
def EnvM (m : RT) (t : Int32) (env : Nat → Int) : Prop := env 3 = t.toInt ∧ (∀ v, v < 3 → ∀ (y : RT) (K : Int64 → Prop), SameV m y → K (lz (env v)) → wp_X10_valueAt y (nI v) t K) ∧ ∀ d, d < 3 → ∃ g : Int32, (∀ (y : RT) (K : Int32 → Prop), SameV m y → K g → wp_X10_lagAt y (nI d) t K) ∧ ∀ v, v < 3 → (∀ (y : RT) (K : Int64 → Prop), SameV m y → K (lz (env (4 + d * 3 + v))) → wp_X10_valueAt y (nI v) (t - g) K) ∧ ∀ (y : RT) (K : Int64 → Prop), SameV m y → K (lz (env (13 + d * 3 + v))) → wp_X10_slopeAt y (nI v) (t - g) K
section
variable {K : Int64 → RT → Prop} {m : RT} {v len : Nat} {L : Nat → Nat} {t : Int32} {vs : List Int} {ss : List Nat} {w : Int32} {k : Nat}
theorem w_num {ss0 : List Nat} {g : Nat} {env : Nat → Int} (hL : LOK L len) (hT : TX (m.1 1) v L len) (hv : v < 3) (hk : k < len) (hnt : ∀ r, ss0 ≠ 126 :: r) (hd : isD (L k) = true) (hg : (numP L k).1 = true) (hF : Fol L (numP L k).2.1) (h : RunW K m v len t (ngI g (valC env (numP L k).2.2) :: vs) ss0 0 (numP L k).2.1) : RunW K m v len t vs (List.replicate g 126 ++ ss0) w k := by
  have h80 := hL.1
  have ok := num_ok hL hd hg
  obtain ⟨V, hV⟩ : ∃ V, (numP L k).2.2 = [(0, V)] := by
    have hgg := hg
    unfold numP at hgg ⊢
    by_cases q : L (k + dgN L 4 k) = 46
    · rw [if_pos q] at hgg ⊢
      by_cases q2 : dgN L 3 (k + dgN L 4 k + 1) = 0
      · rw [if_pos q2] at hgg; exact absurd hgg (by simp)
      · rw [if_neg q2]; exact ⟨_, rfl⟩
    · rw [if_neg q]; exact ⟨_, rfl⟩
  have hV2 : V < 100000000 := by
    have := num_val hd (0, V) (by rw [hV]; exact List.mem_singleton.mpr rfl)
    exact this.2
  have ev : valC env (numP L k).2.2 = (V : Int) := by rw [hV]; rfl
  rw [ev] at h
  have hl : (List.replicate g 126 ++ ss0).length = g + ss0.length := by rw [List.length_append, List.length_replicate]
  refine w_in hL hT hv hk (fun l1 l2 y k15 hy hW go => ?_)
  rw [hl] at l2
  have e1 : y.1 1 = m.1 1 := hy.1 1 (by decide)
  unfold bodyW
  refine n_isDigitM (LOK_126 hL k) ?_
  rw [hd]
  refine ⟨fun z => absurd z (by decide), fun _ => n_numberAt hL (by rw [e1]; exact hT) hv (by omega) hg hF hV (n_puts hnt hW ⟨by omega, by omega⟩ (by omega) (by omega) (fun y' hy' hW' => ?_))⟩
  have e2 : y'.1 1 = y.1 1 := hy'.1 1 (by decide)
  refine n_behind hL (by rw [e2, e1]; exact hT) hv (by omega) hg hF (by have := ok.1; omega) (j311_1 ?_)
  exact go _ _ _ _ _ h (by simp only [List.length_cons]; have := ok.1; omega) (by have := ok.1; omega) hy' hW' ok.1
theorem w_t {ss0 : List Nat} {g : Nat} {x : Int} (hL : LOK L len) (hT : TX (m.1 1) v L len) (hv : v < 3) (hk : k < len) (hnt : ∀ r, ss0 ≠ 126 :: r) (hd : L k = 116) (hx : x = t.toInt) (hb : bd2 x) (h : RunW K m v len t (ngI g x :: vs) ss0 0 (k + 1)) : RunW K m v len t vs (List.replicate g 126 ++ ss0) w k := by
  have h80 := hL.1
  have hl : (List.replicate g 126 ++ ss0).length = g + ss0.length := by rw [List.length_append, List.length_replicate]
  refine w_in hL hT hv hk (fun l1 l2 y k15 hy hW go => ?_)
  rw [hl] at l2
  unfold bodyW
  rw [hd]
  refine n_isDigitM (by decide) ⟨fun _ => ⟨fun z => absurd rfl z, fun _ => ?_⟩, fun z => absurd rfl z⟩
  rw [i2l_lz, ← hx]
  refine n_puts hnt hW hb (by omega) (by omega) (fun y' hy' hW' => j311_1 ?_)
  exact go _ _ _ _ _ h (by simp only [List.length_cons]; omega) (by omega) hy' hW' (by omega)
theorem nI_sub120 {c : Nat} (h : 120 ≤ c) : nI c - 120 = nI (c - 120) := by rw [show (120 : Int32) = nI 120 from rfl, pk_sub h]
theorem w_name {ss0 : List Nat} {g : Nat} {env : Nat → Int} (hL : LOK L len) (hT : TX (m.1 1) v L len) (hv : v < 3) (hk : k < len) (hnt : ∀ r, ss0 ≠ 126 :: r) (hE : ∀ p, p < 22 → bd2 (env p)) (hM : EnvM m t env) (hd : isNm (L k) = true) (hg : (namP L k).1 = true) (h : RunW K m v len t (ngI g (valC env (namP L k).2.2) :: vs) ss0 0 (namP L k).2.1) : RunW K m v len t vs (List.replicate g 126 ++ ss0) w k := by
  have h80 := hL.1
  have hkd := isNm_iff.mp hd
  have hnd : isD (L k) = false := by
    cases q : isD (L k) with
    | false => rfl
    | true => have := isD_iff.mp q; omega
  have hl : (List.replicate g 126 ++ ss0).length = g + ss0.length := by rw [List.length_append, List.length_replicate]
  refine w_in hL hT hv hk (fun l1 l2 y k15 hy hW go => ?_)
  rw [hl] at l2
  have e1 : y.1 1 = m.1 1 := hy.1 1 (by decide)
  have hT' : TX (y.1 1) v L len := by rw [e1]; exact hT
  have ne : ∀ j : Nat, j ≤ 126 → (nI (L k) = nI j ↔ L k = j) := fun j hj => chr (LOK_126 hL k) hj
  unfold bodyW
  refine n_isDigitM (LOK_126 hL k) ?_
  rw [hnd]
  refine ⟨fun _ => ⟨fun _ => n_isNameM (LOK_126 hL k) ?_, fun z => absurd ((ne 116 (by decide)).mp z) (by omega)⟩, fun z => absurd rfl z⟩
  rw [hd]
  refine ⟨fun z => absurd z (by decide), fun _ => ?_⟩
  have a1 : nI k + 1 = nI (k + 1) := nI_1 k
  have a2 : nI k + 2 = nI (k + 2) := by rw [show (2 : Int32) = nI 2 from rfl, nI_add]
  rw [a1]
  refine n_rightLetter hL hT' hv (by omega) ?_
  have fin : ∀ (p e : Nat) (x9 : Int32) (x10 : Int32), p < 22 → k < e → RunW K m v len t (ngI g (env p) :: vs) ss0 0 e → (x10 = 0 → nI (k + 1) = nI e) → (¬ x10 = 0 → x9 + 2 = nI e) → jp_X10_worksOut_224 (nI v) t K k15 (nI k) 1 x9 x10 (lz (env p)) y := by
    intro p e x9 x10 hp hke hr q1 q2
    refine n_puts hnt hW (hE p hp) (by omega) (by omega) (fun y' hy' hW' => ?_)
    have hgo : k15 0 (nI e) y' := go _ _ _ _ _ hr (by simp only [List.length_cons]; omega) (by omega) hy' hW' hke
    refine ⟨fun z => j311_1 ?_, fun z => j311_1 ?_⟩
    · rw [a1, q1 z]; exact hgo
    · rw [q2 z]; exact hgo
  unfold namP at h hg
  refine ⟨fun q => ⟨fun _ => ?_, fun z => absurd rfl z⟩, fun q => ⟨fun z => absurd z (by decide), fun _ => ?_⟩⟩
  · have q' : ¬ L (k + 1) = 39 := fun z => q (by rw [z]; rfl)
    rw [if_neg q'] at h hg
    rw [a1]
    refine n_rightLetter hL hT' hv (by omega) ⟨fun r => ⟨fun _ => ⟨fun _ => ?_, fun z => absurd rfl z⟩, fun z => absurd rfl z⟩, fun r => ⟨fun z => absurd z (by decide), fun _ => ?_⟩⟩
    · have r' : ¬ L (k + 1) = 64 := fun z => r (by rw [z]; rfl)
      rw [if_neg r'] at h
      rw [nI_sub120 hkd.1]
      refine hM.2.1 (L k - 120) (by omega) y _ hy ?_
      exact fin (L k - 120) (k + 1) _ 0 (by omega) (by omega) h (fun _ => rfl) (fun z => absurd rfl z)
    · have r' : L (k + 1) = 64 := (chr (LOK_126 hL _) (by decide)).mp r
      rw [if_pos r'] at h hg
      rw [nI_1 (k + 1)]
      refine n_rightLetter hL hT' hv (by omega) ?_
      show wp_X10_lagAt y (nI (L (k + 2)) - 48) t _
      by_cases s : 48 ≤ L (k + 2) ∧ L (k + 2) ≤ 50
      · rw [if_pos s] at h
        rw [nI_sub48 s.1]
        obtain ⟨lg, g1, g2⟩ := hM.2.2 (L (k + 2) - 48) (by omega)
        refine g1 y _ hy ⟨fun _ => ?_, fun z => absurd rfl z⟩
        rw [nI_sub120 hkd.1]
        refine (g2 (L k - 120) (by omega)).1 y _ hy ?_
        exact fin _ (k + 3) _ 1 (by omega) (by omega) h (fun z => absurd z (by decide)) (fun _ => by rw [show (2 : Int32) = nI 2 from rfl, nI_add])
      · rw [if_neg s] at hg; exact absurd hg (by simp)
  · have q' : L (k + 1) = 39 := (chr (LOK_126 hL _) (by decide)).mp q
    rw [if_pos q'] at h hg
    rw [a2]
    refine n_rightLetter hL hT' hv (by omega) ⟨fun r => ?_, fun r => ⟨fun z => absurd z (by decide), fun _ => ?_⟩⟩
    · have r' : ¬ L (k + 2) = 64 := fun z => r (by rw [z]; rfl)
      rw [if_neg r'] at hg; exact absurd hg (by simp)
    · have r' : L (k + 2) = 64 := (chr (LOK_126 hL _) (by decide)).mp r
      rw [if_pos r'] at h hg
      rw [nI_1 (k + 2)]
      refine n_rightLetter hL hT' hv (by omega) ?_
      show wp_X10_lagAt y (nI (L (k + 3)) - 48) t _
      by_cases s : 48 ≤ L (k + 3) ∧ L (k + 3) ≤ 50
      · rw [if_pos s] at h
        rw [nI_sub48 s.1]
        obtain ⟨lg, g1, g2⟩ := hM.2.2 (L (k + 3) - 48) (by omega)
        refine g1 y _ hy ⟨fun z => absurd z (by decide), fun _ => ?_⟩
        rw [nI_sub120 hkd.1]
        refine (g2 (L k - 120) (by omega)).2 y _ hy ?_
        exact fin _ (k + 4) _ 1 (by omega) (by omega) h (fun z => absurd z (by decide)) (fun _ => by rw [show (2 : Int32) = nI 2 from rfl, nI_add])
      · rw [if_neg s] at hg; exact absurd hg (by simp)
/-- neither a digit nor a name nor t -/
theorem b_other {y : RT} {k15 : Int32 → Int32 → RT → Prop} (hc : L k ≤ 126) (h1 : isD (L k) = false) (h2 : isNm (L k) = false) (h3 : L k ≠ 116) (hp : L k = 41 → wp_X10_shuts y (fun s => jp_X10_worksOut_311 (nI v) t K k15 (nI (k + 1)) 1 s)) (hm : L k = 109 → jp_X10_worksOut_283 (nI v) t K k15 w (nI k) (nI (L k)) 0 (nI k + 4) y) (ho : L k ≠ 41 → L k ≠ 109 → jp_X10_worksOut_283 (nI v) t K k15 w (nI k) (nI (L k)) 0 (nI k + 1) y) : bodyW (nI v) t K k15 w (nI k) (nI (L k)) (nI (k + 1)) y := by
  have ne : ∀ j : Nat, j ≤ 126 → (nI (L k) = nI j ↔ L k = j) := fun j hj => chr hc hj
  unfold bodyW
  refine n_isDigitM hc ?_
  rw [h1]
  refine ⟨fun _ => ⟨fun _ => n_isNameM hc ?_, fun z => absurd ((ne 116 (by decide)).mp z) h3⟩, fun z => absurd rfl z⟩
  rw [h2]
  refine ⟨fun _ => ⟨fun a => ⟨fun b => ?_, fun b => ?_⟩, fun a => hp ((ne 41 (by decide)).mp a)⟩, fun z => absurd rfl z⟩
  · exact ho (fun z => a (by rw [z]; rfl)) (fun z => b (by rw [z]; rfl))
  · exact hm ((ne 109 (by decide)).mp b)
end
