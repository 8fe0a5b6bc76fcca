/-! right -/
theorem CodeX_shift {f f' : Nat → Int32} : ∀ {c : List (Nat × Nat)} {b b' : Nat}, (∀ j, j < c.length → f' (b' + j) = f (b + j)) → CodeX f b c → CodeX f' b' c := by
  intro c
  induction c with
  | nil => intro b b' _ _; trivial
  | cons e r ih =>
    intro b b' h k
    simp only [List.length_cons] at h
    refine ⟨?_, ih (b := b + 1) (b' := b' + 1) (fun j hj => ?_) k.2⟩
    · have := h 0 (by omega)
      rw [Nat.add_zero, Nat.add_zero] at this
      rw [this]; exact k.1
    · have := h (j + 1) (by omega)
      rw [show b' + 1 + j = b' + (j + 1) by omega, show b + 1 + j = b + (j + 1) by omega]
      exact this
def updL (f : Nat → Nat → Nat) (v : Nat) (L : Nat → Nat) : Nat → Nat → Nat := fun j => if j = v then L else f j
theorem n_take {t s : RT} {v : Nat} {K : RT → Prop} (hv : v < 3) (h : ∀ s', (∀ k, k ≠ 2 → k ≠ 3 → k ≠ 4 → s'.1 k = s.1 k) → s'.1 3 = upd (s.1 3) v (t.2.2 4) → s'.1 4 = upd (s.1 4) v (t.2.2 5) → (∀ i, i < 80 → s'.1 2 (v * 80 + i) = t.1 2 i) → (∀ q, q < v * 80 ∨ v * 80 + 80 ≤ q → s'.1 2 q = s.1 2 q) → K s') : wp_X5_take t s (nI v) K := by
  refine n_put (by decide) ?_
  rw [pt_n (by decide) hv]
  intro s2 h2
  refine n_put (by decide) ?_
  rw [pt_n (by decide) hv]
  intro s4 h4
  have key : ∀ (f k : Nat) (y : RT), f + k = 81 → k ≤ 80 → (∀ q, q ≠ 2 → y.1 q = s4.1 q) → (∀ i, i < k → y.1 2 (v * 80 + i) = t.1 2 i) → (∀ q, q < v * 80 ∨ v * 80 + 80 ≤ q → y.1 2 q = s.1 2 q) → lp_X5_take_31 t (nI v) K f (nI k) y := by
    intro f
    induction f with
    | zero => intro k y a b; omega
    | succ f ih =>
      intro k y a b c1 c2 c3
      refine ⟨fun q => ?_, fun q => ?_⟩
      · have := (nI_leI (a := 80) (by decide) (by omega)).mp q
        refine h y (fun k q2 q3 q4 => ?_) ?_ ?_ (fun i hi => c2 i (by omega)) c3
        · rw [c1 k q2, h4, h2]
          show (if k = 4 then _ else if k = 3 then _ else s.1 k) = s.1 k
          rw [if_neg q4, if_neg q3]
        · rw [c1 3 (by decide), h4, h2]; rfl
        · rw [c1 4 (by decide), h4, h2]; rfl
      · have hk : k < 80 := by
          rcases Nat.lt_or_ge k 80 with w | w
          · exact w
          · exact absurd (nI_le w (by omega)) q
        rw [show nI v * 80 + nI k = nI (v * 80 + k) by rw [show (80 : Int32) = nI 80 from rfl, pk_mul, nI_add]]
        refine n_pick (by decide) (n_put (by decide) ?_)
        rw [pk_n (by decide) hk, pt_n (by decide) (by omega)]
        intro s8 h8 x9 h9
        have e9 : x9 = nI (k + 1) := h9.trans (nI_1 k)
        subst h8; subst e9
        refine ih (k + 1) _ (by omega) (by omega) (fun q hq => ?_) (fun i hi => ?_) (fun q hq => ?_)
        · show (if q = 2 then _ else y.1 q) = _
          rw [if_neg hq]; exact c1 q hq
        · show upd (y.1 2) (v * 80 + k) (t.1 2 k) (v * 80 + i) = _
          by_cases e : i = k
          · subst e; exact pk_us
          · rw [pk_un (by omega)]; exact c2 i (by omega)
        · show upd (y.1 2) (v * 80 + k) (t.1 2 k) q = _
          rw [pk_un (by omega)]; exact c3 q hq
  exact ⟨81, key 81 0 s4 rfl (by decide) (fun _ _ => rfl) (fun i hi => by omega) (fun q _ => by rw [h4, h2]; rfl)⟩
