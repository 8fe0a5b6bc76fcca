/-! break points: what stands in the rows, told apart from its order -/
def insT (i x : Nat) (f : Nat → Nat) : Nat → Nat := fun j => if j < i then f j else if j = i then x else f (j - 1)
def updT (f : Nat → Nat) (i x : Nat) : Nat → Nat := fun j => if j = i then x else f j
def Rep (n : Nat) (T O D : Nat → Nat) (Q : Nat → Nat → Nat → Prop) : Prop := (∀ i j, i < j → j < n → T i ≠ T j) ∧ ∀ t o d, Q t o d ↔ ∃ i, i < n ∧ T i = t ∧ O i = o ∧ D i = d
def Qm (Q : Nat → Nat → Nat → Prop) (l : Nat) (mk : Nat → Nat → Prop) : Nat → Nat → Nat → Prop := fun t o d => Q t o d ∨ ((∀ o' d', ¬ Q t o' d') ∧ o = l + 1 ∧ mk t d ∧ ∀ d', d' < d → ¬ mk t d')
def addmk (mk : Nat → Nat → Prop) (t0 d0 : Nat) : Nat → Nat → Prop := fun t d => mk t d ∨ (t = t0 ∧ d = d0)
theorem Rep_inj {n : Nat} {T O D : Nat → Nat} {Q : Nat → Nat → Nat → Prop} (h : Rep n T O D Q) {i j : Nat} (hi : i < n) (hj : j < n) (e : T i = T j) : i = j := by
  rcases Nat.lt_trichotomy i j with w | w | w
  · exact absurd e (h.1 i j w hj)
  · exact w
  · exact absurd e.symm (h.1 j i w hi)
theorem Qm_other {Q : Nat → Nat → Nat → Prop} {l : Nat} {mk : Nat → Nat → Prop} {t0 d0 t o d : Nat} (h : t ≠ t0) : Qm Q l (addmk mk t0 d0) t o d ↔ Qm Q l mk t o d := by
  have e : ∀ d, addmk mk t0 d0 t d ↔ mk t d := fun d => ⟨fun w => w.elim id (fun w2 => absurd w2.1 h), Or.inl⟩
  unfold Qm
  rw [e d]
  constructor
  · rintro (w | ⟨w1, w2, w3, w4⟩)
    · exact Or.inl w
    · exact Or.inr ⟨w1, w2, w3, fun d' hd w5 => w4 d' hd ((e d').mpr w5)⟩
  · rintro (w | ⟨w1, w2, w3, w4⟩)
    · exact Or.inl w
    · exact Or.inr ⟨w1, w2, w3, fun d' hd w5 => w4 d' hd ((e d').mp w5)⟩
theorem Qm_old {Q : Nat → Nat → Nat → Prop} {l : Nat} {mk : Nat → Nat → Prop} {t o d o1 d1 : Nat} (h : Q t o1 d1) : Qm Q l mk t o d ↔ Q t o d := ⟨fun w => w.elim id (fun w2 => absurd h (w2.1 o1 d1)), Or.inl⟩
theorem Qm_min {Q : Nat → Nat → Nat → Prop} {l : Nat} {mk : Nat → Nat → Prop} {t0 d0 o d d1 : Nat} (h0 : ∀ o' d', ¬ Q t0 o' d') (h1 : mk t0 d1) (h2 : ∀ d', d' < d1 → ¬ mk t0 d') : Qm Q l (addmk mk t0 d0) t0 o d ↔ o = l + 1 ∧ d = min d0 d1 := by
  constructor
  · rintro (w | ⟨w1, w2, w3, w4⟩)
    · exact absurd w (h0 _ _)
    · refine ⟨w2, ?_⟩
      have a : ¬ d1 < d := fun q => w4 d1 q (Or.inl h1)
      have b : ¬ d0 < d := fun q => w4 d0 q (Or.inr ⟨rfl, rfl⟩)
      rcases w3 with w3 | w3
      · have : ¬ d < d1 := fun q => h2 d q w3
        omega
      · omega
  · rintro ⟨w1, w2⟩
    refine Or.inr ⟨h0, w1, ?_, fun d' hd w => ?_⟩
    · by_cases q : d0 ≤ d1
      · exact Or.inr ⟨rfl, by omega⟩
      · have : d = d1 := by omega
        rw [this]; exact Or.inl h1
    · rcases w with w | w
      · exact h2 d' (by omega) w
      · omega
theorem Qm_new {Q : Nat → Nat → Nat → Prop} {l : Nat} {mk : Nat → Nat → Prop} {t0 d0 o d : Nat} (h0 : ∀ o' d', ¬ Qm Q l mk t0 o' d') : Qm Q l (addmk mk t0 d0) t0 o d ↔ o = l + 1 ∧ d = d0 := by
  have hq : ∀ o' d', ¬ Q t0 o' d' := fun o' d' w => h0 o' d' (Or.inl w)
  have hm : ∀ k d', d' < k → ¬ mk t0 d' := by
    intro k
    induction k with
    | zero => intro d' hd; omega
    | succ k ih =>
      intro d' hd w
      by_cases e : d' = k
      · subst e
        exact h0 (l + 1) d' (Or.inr ⟨hq, rfl, w, ih⟩)
      · exact ih d' (by omega) w
  have hm2 : ∀ d', ¬ mk t0 d' := fun d' => hm (d' + 1) d' (by omega)
  constructor
  · rintro (w | ⟨w1, w2, w3, w4⟩)
    · exact absurd w (hq _ _)
    · exact ⟨w2, w3.elim (fun w => absurd w (hm2 _)) (fun w => w.2)⟩
  · rintro ⟨w1, w2⟩
    exact Or.inr ⟨hq, w1, Or.inr ⟨rfl, w2⟩, fun d' hd w => w.elim (hm2 d') (fun w => by omega)⟩
theorem rep_skip {n : Nat} {T O D : Nat → Nat} {Q : Nat → Nat → Nat → Prop} {l : Nat} {mk : Nat → Nat → Prop} {t0 d0 i : Nat} (h : Rep n T O D (Qm Q l mk)) (hi : i < n) (ht : T i = t0) (ho : O i ≠ l + 1) : Rep n T O D (Qm Q l (addmk mk t0 d0)) := by
  refine ⟨h.1, fun t o d => ?_⟩
  rw [← h.2 t o d]
  by_cases e : t = t0
  · subst e
    have hq : Q t (O i) (D i) := ((h.2 t (O i) (D i)).mpr ⟨i, hi, ht, rfl, rfl⟩).elim id (fun w => absurd w.2.1 ho)
    rw [Qm_old hq, Qm_old hq]
  · exact Qm_other e
theorem rep_min {n : Nat} {T O D : Nat → Nat} {Q : Nat → Nat → Nat → Prop} {l : Nat} {mk : Nat → Nat → Prop} {t0 d0 i : Nat} (h : Rep n T O D (Qm Q l mk)) (hQ : ∀ t o d, Q t o d → o ≤ l) (hi : i < n) (ht : T i = t0) (ho : O i = l + 1) : Rep n T O (updT D i (min d0 (D i))) (Qm Q l (addmk mk t0 d0)) := by
  have hi2 := (h.2 t0 (O i) (D i)).mpr ⟨i, hi, ht, rfl, rfl⟩
  have hr : (∀ o' d', ¬ Q t0 o' d') ∧ mk t0 (D i) ∧ ∀ d', d' < D i → ¬ mk t0 d' := by
    rcases hi2 with w | ⟨w1, w2, w3, w4⟩
    · have := hQ _ _ _ w; omega
    · exact ⟨w1, w3, w4⟩
  refine ⟨h.1, fun t o d => ?_⟩
  by_cases e : t = t0
  · subst e
    rw [Qm_min hr.1 hr.2.1 hr.2.2]
    constructor
    · rintro ⟨w1, w2⟩
      exact ⟨i, hi, ht, by omega, by unfold updT; rw [if_pos rfl, w2]⟩
    · rintro ⟨j, w1, w2, w3, w4⟩
      have : j = i := Rep_inj h w1 hi (by omega)
      subst this
      unfold updT at w4
      rw [if_pos rfl] at w4
      exact ⟨by omega, w4.symm⟩
  · rw [Qm_other e, h.2 t o d]
    constructor
    · rintro ⟨j, w1, w2, w3, w4⟩
      exact ⟨j, w1, w2, w3, by unfold updT; rw [if_neg (fun q => e (by rw [← w2, q, ht]))]; exact w4⟩
    · rintro ⟨j, w1, w2, w3, w4⟩
      unfold updT at w4
      rw [if_neg (fun q => e (by rw [← w2, q, ht]))] at w4
      exact ⟨j, w1, w2, w3, w4⟩
theorem insT_lt {i x j : Nat} {f : Nat → Nat} (h : j < i) : insT i x f j = f j := if_pos h
theorem insT_eq {i x : Nat} {f : Nat → Nat} : insT i x f i = x := by unfold insT; rw [if_neg (by omega), if_pos rfl]
theorem insT_gt {i x j : Nat} {f : Nat → Nat} (h : i ≤ j) : insT i x f (j + 1) = f j := by unfold insT; rw [if_neg (by omega), if_neg (by omega)]; rfl
theorem rep_ins {n : Nat} {T O D : Nat → Nat} {Q : Nat → Nat → Nat → Prop} {l : Nat} {mk : Nat → Nat → Prop} {t0 d0 i : Nat} (h : Rep n T O D (Qm Q l mk)) (hi : i ≤ n) (ht : ∀ j, j < n → T j ≠ t0) : Rep (n + 1) (insT i t0 T) (insT i (l + 1) O) (insT i d0 D) (Qm Q l (addmk mk t0 d0)) := by
  refine ⟨fun j k hjk hk => ?_, fun t o d => ?_⟩
  · by_cases j1 : j < i
    · rw [insT_lt j1]
      by_cases k1 : k < i
      · rw [insT_lt k1]; exact h.1 j k hjk (by omega)
      · by_cases k2 : k = i
        · subst k2; rw [insT_eq]; exact ht j (by omega)
        · rw [show k = (k - 1) + 1 by omega, insT_gt (by omega)]; exact h.1 j (k - 1) (by omega) (by omega)
    · rw [show k = (k - 1) + 1 by omega, insT_gt (by omega)]
      by_cases j2 : j = i
      · subst j2; rw [insT_eq]; exact (ht (k - 1) (by omega)).symm
      · rw [show j = (j - 1) + 1 by omega, insT_gt (by omega)]; exact h.1 (j - 1) (k - 1) (by omega) (by omega)
  · by_cases e : t = t0
    · subst e
      have hno : ∀ o' d', ¬ Qm Q l mk t o' d' := fun o' d' w => by
        obtain ⟨j, w1, w2, _⟩ := (h.2 t o' d').mp w
        exact ht j w1 w2
      rw [Qm_new hno]
      constructor
      · rintro ⟨w1, w2⟩
        exact ⟨i, by omega, insT_eq, by rw [insT_eq, w1], by rw [insT_eq, w2]⟩
      · rintro ⟨j, w1, w2, w3, w4⟩
        by_cases j1 : j < i
        · rw [insT_lt j1] at w2; exact absurd w2 (ht j (by omega))
        · by_cases j2 : j = i
          · subst j2
            rw [insT_eq] at w3 w4
            exact ⟨w3.symm, w4.symm⟩
          · rw [show j = (j - 1) + 1 by omega, insT_gt (by omega)] at w2; exact absurd w2 (ht (j - 1) (by omega))
    · rw [Qm_other e, h.2 t o d]
      constructor
      · rintro ⟨j, w1, w2, w3, w4⟩
        by_cases j1 : j < i
        · exact ⟨j, by omega, by rw [insT_lt j1]; exact w2, by rw [insT_lt j1]; exact w3, by rw [insT_lt j1]; exact w4⟩
        · exact ⟨j + 1, by omega, by rw [insT_gt (by omega)]; exact w2, by rw [insT_gt (by omega)]; exact w3, by rw [insT_gt (by omega)]; exact w4⟩
      · rintro ⟨j, w1, w2, w3, w4⟩
        by_cases j1 : j < i
        · rw [insT_lt j1] at w2 w3 w4; exact ⟨j, by omega, w2, w3, w4⟩
        · by_cases j2 : j = i
          · subst j2; rw [insT_eq] at w2; exact absurd w2.symm e
          · rw [show j = (j - 1) + 1 by omega, insT_gt (by omega)] at w2 w3 w4; exact ⟨j - 1, by omega, w2, w3, w4⟩
/-! sorted rows are told by what stands in them -/
def Srt (n : Nat) (T : Nat → Nat) : Prop := ∀ i, i + 1 < n → T i < T (i + 1)
theorem Srt_lt {n : Nat} {T : Nat → Nat} (h : Srt n T) {i j : Nat} (hij : i < j) (hj : j < n) : T i < T j := by
  induction j with
  | zero => omega
  | succ j ih =>
    have h1 := h j hj
    by_cases e : i = j
    · subst e; exact h1
    · have := ih (by omega) (by omega); omega
theorem srt_ge {n m : Nat} {T S : Nat → Nat} (hT : Srt n T) (hS : Srt m S) (h : ∀ i, i < n → ∃ j, j < m ∧ S j = T i) : ∀ i, i < n → ∃ j, i ≤ j ∧ j < m ∧ S j = T i := by
  intro i
  induction i with
  | zero => intro hi; obtain ⟨j, a, b⟩ := h 0 hi; exact ⟨j, by omega, a, b⟩
  | succ i ih =>
    intro hi
    obtain ⟨j, a, b, c⟩ := ih (by omega)
    obtain ⟨k, d, e⟩ := h (i + 1) hi
    refine ⟨k, ?_, d, e⟩
    have h1 := hT i hi
    rcases Nat.lt_or_ge j k with w | w
    · omega
    · by_cases q : k = j
      · subst q; omega
      · have := Srt_lt hS (show k < j by omega) b; omega
theorem srt_uniq {n m : Nat} {T S : Nat → Nat} (hT : Srt n T) (hS : Srt m S) (h : ∀ t, (∃ i, i < n ∧ T i = t) ↔ ∃ j, j < m ∧ S j = t) : n = m ∧ ∀ i, i < n → T i = S i := by
  have a := srt_ge hT hS (fun i hi => (h (T i)).mp ⟨i, hi, rfl⟩)
  have b := srt_ge hS hT (fun i hi => (h (S i)).mpr ⟨i, hi, rfl⟩)
  have hn : n = m := by
    have h1 : ¬ m < n := fun w => by obtain ⟨j, q1, q2, _⟩ := a (n - 1) (by omega); omega
    have h2 : ¬ n < m := fun w => by obtain ⟨j, q1, q2, _⟩ := b (m - 1) (by omega); omega
    omega
  subst hn
  refine ⟨rfl, fun i hi => ?_⟩
  obtain ⟨j, q1, q2, q3⟩ := a i hi
  obtain ⟨k, r1, r2, r3⟩ := b i hi
  have e1 : S i ≤ T i := by
    by_cases e : i = j
    · subst e; omega
    · have := Srt_lt hS (show i < j by omega) q2; omega
  have e2 : T i ≤ S i := by
    by_cases e : i = k
    · subst e; omega
    · have := Srt_lt hT (show i < k by omega) r2; omega
  omega
theorem rep_uniq {n m : Nat} {T O D S P E : Nat → Nat} {Q : Nat → Nat → Nat → Prop} (h1 : Rep n T O D Q) (h2 : Rep m S P E Q) (hT : Srt n T) (hS : Srt m S) : n = m ∧ ∀ i, i < n → T i = S i ∧ O i = P i ∧ D i = E i := by
  have hu := srt_uniq hT hS (fun t => by
    constructor
    · rintro ⟨i, hi, e⟩
      obtain ⟨j, a, b, _⟩ := (h2.2 t (O i) (D i)).mp ((h1.2 t (O i) (D i)).mpr ⟨i, hi, e, rfl, rfl⟩)
      exact ⟨j, a, b⟩
    · rintro ⟨i, hi, e⟩
      obtain ⟨j, a, b, _⟩ := (h1.2 t (P i) (E i)).mp ((h2.2 t (P i) (E i)).mpr ⟨i, hi, e, rfl, rfl⟩)
      exact ⟨j, a, b⟩)
  obtain ⟨e, hu⟩ := hu
  subst e
  refine ⟨rfl, fun i hi => ?_⟩
  obtain ⟨j, a, b, c, d⟩ := (h2.2 (T i) (O i) (D i)).mp ((h1.2 (T i) (O i) (D i)).mpr ⟨i, hi, rfl, rfl, rfl⟩)
  have : j = i := Rep_inj h2 a hi (by rw [b, hu i hi])
  subst this
  exact ⟨b.symm, c.symm, d.symm⟩
/-! how many there can be -/
theorem pig : ∀ (m n : Nat) (T S : Nat → Nat), (∀ i j, i < j → j < n → T i ≠ T j) → (∀ i, i < n → ∃ j, j < m ∧ T i = S j) → n ≤ m := by
  intro m
  induction m with
  | zero =>
    intro n T S h1 h2
    rcases Nat.eq_zero_or_pos n with e | e
    · omega
    · obtain ⟨j, a, _⟩ := h2 0 e; omega
  | succ m ih =>
    intro n T S h1 h2
    by_cases q : ∃ i, i < n ∧ T i = S m
    · obtain ⟨i0, a, b⟩ := q
      have := ih (n - 1) (fun i => if i < i0 then T i else T (i + 1)) S (fun i j hij hj => by
          show (if i < i0 then T i else T (i + 1)) ≠ (if j < i0 then T j else T (j + 1))
          split
          · split
            · exact h1 i j hij (by omega)
            · exact h1 i (j + 1) (by omega) (by omega)
          · rw [if_neg (by omega)]; exact h1 (i + 1) (j + 1) (by omega) (by omega))
        (fun i hi => by
          show ∃ j, j < m ∧ (if i < i0 then T i else T (i + 1)) = S j
          split
          · obtain ⟨j, c, d⟩ := h2 i (by omega)
            refine ⟨j, ?_, d⟩
            have : j ≠ m := fun e => by rw [e, ← b] at d; exact h1 i i0 (by omega) a d
            omega
          · obtain ⟨j, c, d⟩ := h2 (i + 1) (by omega)
            refine ⟨j, ?_, d⟩
            have : j ≠ m := fun e => by rw [e, ← b] at d; exact h1 i0 (i + 1) (by omega) (by omega) d.symm
            omega)
      omega
    · have := ih n T S h1 (fun i hi => by
        obtain ⟨j, c, d⟩ := h2 i hi
        refine ⟨j, ?_, d⟩
        have : j ≠ m := fun e => q ⟨i, hi, by rw [d, e]⟩
        omega)
      omega
def mkP (U : Nat → Prop) (c p : Nat → Int) (Q : Nat → Nat → Nat → Prop) (l : Nat) (P : Nat → Nat → Prop) : Nat → Nat → Prop := fun t d => ∃ b e, Q b l e ∧ d < 3 ∧ U d ∧ madeN (c d) (p d) b = t ∧ t ≠ 0 ∧ P b d
def QB (U : Nat → Prop) (c p : Nat → Int) : Nat → Nat → Nat → Nat → Prop
  | 0 => fun t o d => t = 0 ∧ o = 0 ∧ d = 0
  | l + 1 => Qm (QB U c p l) l (mkP U c p (QB U c p l) l (fun _ _ => True))
def CL (c p : Nat → Int) : Nat → Nat → Nat
  | 0 => fun _ => 0
  | l + 1 => fun j => madeN (c (j % 3)) (p (j % 3)) (CL c p l (j / 3))
def QIn (c p : Nat → Int) (l t o d : Nat) : Prop := o ≤ l ∧ t ≤ 8000 ∧ d < 3 ∧ (t = 0 ↔ o = 0) ∧ ∃ j, j < 3 ^ o ∧ t = CL c p o j
theorem Qm_in {U : Nat → Prop} {c p : Nat → Int} {Q : Nat → Nat → Nat → Prop} {l : Nat} {P : Nat → Nat → Prop} (hQ : ∀ t o d, Q t o d → QIn c p l t o d) : ∀ t o d, Qm Q l (mkP U c p Q l P) t o d → QIn c p (l + 1) t o d := by
  rintro t o d (w | ⟨w1, w2, ⟨b, e, q1, q2, q3, q4, q5, q6⟩, w4⟩)
  · obtain ⟨a1, a2, a3, a4, a5⟩ := hQ t o d w
    exact ⟨by omega, a2, a3, a4, a5⟩
  · obtain ⟨a1, a2, a3, a4, j, a5, a6⟩ := hQ b l e q1
    have hr := made_range (c := c d) (s := p d) (b := b) a2 (by rw [q4]; exact q5)
    rw [q4] at hr
    refine ⟨by omega, hr.2, q2, by omega, 3 * j + d, ?_, ?_⟩
    · rw [w2, Nat.pow_succ]; omega
    · rw [w2]
      show t = madeN (c ((3 * j + d) % 3)) (p ((3 * j + d) % 3)) (CL c p l ((3 * j + d) / 3))
      rw [show (3 * j + d) % 3 = d by omega, show (3 * j + d) / 3 = j by omega, ← a6, q4]
theorem QB_in {U : Nat → Prop} {c p : Nat → Int} : ∀ l t o d, QB U c p l t o d → QIn c p l t o d := by
  intro l
  induction l with
  | zero =>
    rintro t o d ⟨h1, h2, h3⟩
    subst h1; subst h2; subst h3
    exact ⟨by omega, by omega, by omega, by omega, 0, by decide, rfl⟩
  | succ l ih => exact Qm_in ih
theorem few {n l : Nat} {T O D : Nat → Nat} {Q : Nat → Nat → Nat → Prop} {c p : Nat → Int} (h : Rep n T O D Q) (hl : l ≤ 3) (hQ : ∀ t o d, Q t o d → QIn c p l t o d) : n ≤ 40 := by
  refine pig 40 n T (fun j => if j < 1 then CL c p 0 j else if j < 4 then CL c p 1 (j - 1) else if j < 13 then CL c p 2 (j - 4) else CL c p 3 (j - 13)) h.1 (fun i hi => ?_)
  obtain ⟨a1, a2, a3, a4, j, a5, a6⟩ := hQ (T i) (O i) (D i) ((h.2 _ _ _).mpr ⟨i, hi, rfl, rfl, rfl⟩)
  generalize O i = o at a1 a5 a6
  show ∃ j, j < 40 ∧ T i = if j < 1 then CL c p 0 j else if j < 4 then CL c p 1 (j - 1) else if j < 13 then CL c p 2 (j - 4) else CL c p 3 (j - 13)
  have ho : o = 0 ∨ o = 1 ∨ o = 2 ∨ o = 3 := by omega
  rcases ho with e | e | e | e
  · subst e
    exact ⟨j, by omega, by rw [if_pos (by omega)]; exact a6⟩
  · subst e
    exact ⟨j + 1, by omega, by rw [if_neg (by omega), if_pos (by omega)]; exact a6⟩
  · subst e
    exact ⟨j + 4, by omega, by rw [if_neg (by omega), if_neg (by omega), if_pos (by omega)]; exact a6⟩
  · subst e
    exact ⟨j + 13, by omega, by rw [if_neg (by omega), if_neg (by omega), if_neg (by omega)]; exact a6⟩
