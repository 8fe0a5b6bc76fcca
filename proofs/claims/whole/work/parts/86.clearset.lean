/-! clear and set -/
theorem txt_k {t m y : RT} {L : Nat → Nat} {len : Nat} (hT : TxtG t m L len) (h5 : y.1 5 = m.1 5) (h6 : y.2.2 6 = m.2.2 6) : TxtG t y L len := by
  refine ⟨hT.1, hT.2.1, hT.2.2.1, ?_⟩
  have hm := hT.2.2.2
  unfold MT at hm ⊢
  rw [h5, h6]
  exact hm
theorem PT_clear_ok : PT_clear Inv := by
  intro j t c r p ct kp kr sl sr m a0 hj h
  have h' := Inv_s h
  obtain ⟨⟨L, len, hT⟩, ⟨G, hG⟩, ⟨cn, k1, k2, k3⟩, k4, k5, k6⟩ := h
  refine n_isVariable ⟨fun z => ?_, fun z => n_isThree ⟨fun w => absurd z w, fun _ => ⟨rfl, h'⟩⟩⟩
  obtain ⟨v, hv, rfl⟩ := wi02 (b2_1.mp z)
  obtain ⟨hS1, hS2, hS3, hS4, hS5⟩ := hG.2.1.1
  obtain ⟨hR1, hR2, hR3, hR4, hR5⟩ := hG.2.2.1.1
  have hP := hG.1.1
  have h6 := (hP.2.2.1 v hv).1
  refine n_record hG.1 hG.2.1 k1 k3 (fun ct2 kp2 kr2 hRc => n_pick (by decide) (n_put (by decide) ?_))
  rw [pk_n (by decide) hv, pt_n (by decide) hv]
  intro s9 h9
  let P' : PB := ((bL (qP G), bl (qP G)), (bc (qP G), bp (qP G)), (updT (bh (qP G)) v 0, bT (qP G), bV (qP G)), (bS (qP G), bR (qP G), bO (qP G)))
  have hP' : POKp P' := by
    refine ⟨hP.1, hP.2.1, fun e he => ?_, hP.2.2.2⟩
    show updT (bh (qP G)) v 0 e ≤ 6 ∧ (∀ k, k < updT (bh (qP G)) v 0 e → _) ∧ (∀ k, k + 1 < updT (bh (qP G)) v 0 e → _)
    unfold updT
    by_cases q : e = v
    · rw [if_pos q]; exact ⟨by omega, fun k hk => by omega, fun k hk => by omega⟩
    · rw [if_neg q]; exact hP.2.2.1 e he
  have f9 : s9.1 9 = upd (c.1 9) v 0 := by rw [h9]; rfl
  have fo : ∀ k, k ≠ 9 → s9.1 k = c.1 k := fun k q => by rw [h9]; exact if_neg q
  have hS' : SXp s9 P' := by
    refine ⟨fun u hu => ?_, fun e he => by rw [fo 6 (by decide)]; exact hS2 e he, fun e he => by rw [fo 7 (by decide)]; exact hS3 e he, fun u hu => ?_, by rw [fo 12 (by decide)]; exact hS5⟩
    · have := hS1 u hu
      unfold CDX at this ⊢
      rw [fo 3 (by decide), fo 2 (by decide), fo 4 (by decide)]
      exact this
    · rw [f9, fo 10 (by decide), fo 11 (by decide)]
      show upd (c.1 9) v 0 u = nI (updT (bh (qP G)) v 0 u) ∧ ∀ k, k < updT (bh (qP G)) v 0 u → _
      unfold updT
      by_cases q : u = v
      · rw [if_pos q, q, pk_us]; exact ⟨rfl, fun k hk => by omega⟩
      · rw [if_neg q, pk_un q]; exact hS4 u hu
  have hZ' : Z0 s9 := by
    have := SxG_Z0 hG.1 hG.2.1
    unfold Z0 at this ⊢
    rw [fo 14 (by decide), fo 15 (by decide), fo 16 (by decide), fo 18 (by decide)]
    exact this
  refine n_change p hG k3 k4 k5 k6 hRc hP' hS' hZ' (fun s' hs' _ anew => n_isThree ⟨fun _ => ?_, fun w => absurd w z⟩)
  refine n_saves k3.1 k2 (fun y1 hM => ?_)
  have y11 : y1.1 1 = m.1 1 := hM.1.1 1 (by decide)
  refine n_points (by rw [y11]; exact hR4) hv ⟨14, ?_⟩
  have key : ∀ (f k : Nat) (y2 : RT), f + k = 14 → k ≤ 13 → (∀ q, q ≠ 1 → y2.1 q = y1.1 q) → y2.2 = y1.2 → (∀ q, q < 9 + 13 * v ∨ 9 + 13 * v + 13 ≤ q → y2.1 1 q = m.1 1 q) → (∀ i, i < k → y2.1 1 (9 + 13 * v + i) = 0) → lp_X10_clear_22 (nI v) (fun v2 m2 => c.1 9 v = v2 ∧ Inv (j + 1) t s' r p ct2 kp2 kr2 sl sr m2) f (nI (bh (qP G) v)) (nI k) y2 := by
    intro f
    induction f with
    | zero => intro k y2 a b; omega
    | succ f ih =>
      intro k y2 a b c1 c2 c3 c4
      refine ⟨fun q => ?_, fun q => ?_⟩
      · have hk := (nI_leI (a := 13) (by decide) (by omega)).mp q
        refine anew y1 y2 t L len _ hM c1 (fun q _ => by rw [c2]) ?_ (txt_k hT ((c1 5 (by decide)).trans (hM.1.1 5 (by decide))) (by rw [c2]; exact hM.1.2.2 6 (by decide))) (fun y3 _ hI => ⟨(hS4 v hv).1, hI⟩)
        refine ⟨fun u hu => ?_, fun e he => by rw [c3 _ (by omega)]; exact hR2 e he, fun e he => by rw [c3 _ (by omega)]; exact hR3 e he, fun u hu => ?_, ?_⟩
        · obtain ⟨w1, w2⟩ := hR1 u hu
          exact ⟨by rw [c3 _ (by omega)]; exact w1, fun i hi => by rw [c3 _ (by omega)]; exact w2 i hi⟩
        · show y2.1 1 (9 + 13 * u) = nI (updT (bh (qP G)) v 0 u) ∧ ∀ k, k < updT (bh (qP G)) v 0 u → _
          unfold updT
          have hu6 := (hP.2.2.1 u hu).1
          by_cases q : u = v
          · rw [if_pos q, q]
            have := c4 0 (by omega)
            rw [Nat.add_zero] at this
            exact ⟨this, fun k hk => by omega⟩
          · rw [if_neg q]
            obtain ⟨w1, w2⟩ := hR4 u hu
            refine ⟨by rw [c3 _ (by omega)]; exact w1, fun k hk => ?_⟩
            rw [c3 _ (by omega), c3 _ (by omega)]
            exact w2 k hk
        · show y2.1 1 0 = _ ∧ y2.1 1 1 = _ ∧ y2.1 1 2 = _
          rw [c3 _ (by omega), c3 _ (by omega), c3 _ (by omega)]
          exact hR5
      · have hk : k < 13 := by
          rcases Nat.lt_or_ge k 13 with w | w
          · exact w
          · exact absurd (nI_le w (by omega)) q
        rw [ixM0, nI_add, nI_clamp (by omega)]
        refine ⟨vp_in_nI (by omega) (by decide), fun s7 h7 x8 h8 => ?_⟩
        have e8 : x8 = nI (k + 1) := h8.trans (nI_1 k)
        subst h7; subst e8
        refine ih (k + 1) _ (by omega) (by omega) (fun q hq => ?_) c2 (fun q hq => ?_) (fun i hi => ?_)
        · show (if q = 1 then _ else y2.1 q) = _
          rw [if_neg hq]; exact c1 q hq
        · show upd (y2.1 1) (9 + 13 * v + k) 0 q = _
          rw [pk_un (by omega)]; exact c3 q hq
        · show upd (y2.1 1) (9 + 13 * v + k) 0 (9 + 13 * v + i) = _
          by_cases e : i = k
          · subst e; exact pk_us
          · rw [pk_un (by omega)]; exact c4 i (by omega)
  exact key 14 0 y1 rfl (by decide) (fun _ _ => rfl) rfl (fun q _ => by rw [y11]) (fun i hi => by omega)
theorem n_setM {m : RT} {a0 a1 : Int32} {K : Int32 → RT → Prop} (hok : (a0 = 0 ∧ wi a1 20 500 = true) ∨ (a0 = 1 ∧ wi a1 0 4 = true) ∨ (a0 = 2 ∧ wi a1 0 3 = true) → jp_X10_set_49 a0 a1 K 1 m) (hno : ¬ ((a0 = 0 ∧ wi a1 20 500 = true) ∨ (a0 = 1 ∧ wi a1 0 4 = true) ∨ (a0 = 2 ∧ wi a1 0 3 = true)) → K (-2000000001) m) : wp_X10_set m a0 a1 K := by
  have d01 : (0 : Int32) ≠ 1 := by decide
  have d02 : (0 : Int32) ≠ 2 := by decide
  have d12 : (1 : Int32) ≠ 2 := by decide
  have h48 : ¬ ((a0 = 0 ∧ wi a1 20 500 = true) ∨ (a0 = 1 ∧ wi a1 0 4 = true) ∨ (a0 = 2 ∧ wi a1 0 3 = true)) → jp_X10_set_48 a0 a1 K m := fun q => ⟨fun w => absurd rfl w, fun _ => hno q⟩
  have h30 : ¬ (a0 = 0 ∧ wi a1 20 500 = true) → ¬ (a0 = 1 ∧ wi a1 0 4 = true) → jp_X10_set_30 a0 a1 K m := by
    intro q0 q1
    refine ⟨fun w => h48 (fun z => z.elim q0 (fun z => z.elim q1 (fun z => w z.1))), fun w => n_within ⟨fun z => h48 (fun y => y.elim q0 (fun y => y.elim q1 (fun y => ?_))), fun z => hok (Or.inr (Or.inr ⟨w, b2_1.mp z⟩))⟩⟩
    have := y.2
    rw [b2_0.mp z] at this
    exact absurd this (by decide)
  have h16 : ¬ (a0 = 0 ∧ wi a1 20 500 = true) → jp_X10_set_16 a0 a1 K m := by
    intro q0
    refine ⟨fun w => h30 q0 (fun z => w z.1), fun w => n_within ⟨fun z => hok (Or.inr (Or.inl ⟨w, b2_1.mp z⟩)), fun z => h30 q0 (fun y => ?_)⟩⟩
    have := y.2
    rw [b2_0.mp z] at this
    exact absurd this (by decide)
  refine ⟨fun w => h16 (fun z => w z.1), fun w => n_within ⟨fun z => hok (Or.inl ⟨w, b2_1.mp z⟩), fun z => h16 (fun y => ?_)⟩⟩
  have := y.2
  rw [b2_0.mp z] at this
  exact absurd this (by decide)
theorem PT_set_ok : PT_set Inv := by
  intro j t c r p ct kp kr sl sr m a0 a1 hj h
  have h' := Inv_s h
  obtain ⟨⟨L, len, hT⟩, ⟨G, hG⟩, ⟨cn, k1, k2, k3⟩, k4, k5, k6⟩ := h
  refine n_isWithin ⟨fun z => n_setM (fun q => ?_) (fun _ => ⟨rfl, h'⟩), fun z => ?_⟩
  · exfalso
    have hb : wi a0 0 2 = true := by
      rcases q with q | q | q
      · rw [q.1]; decide
      · rw [q.1]; decide
      · rw [q.1]; decide
    rw [hb] at z
    exact absurd z (by decide)
  obtain ⟨w, hw, rfl⟩ := wi02 (b2_1.mp z)
  refine n_pickRo (by decide) (n_pickRo (by decide) ?_)
  rw [pk_n (by decide) hw, pk_n (by decide) hw]
  have hok : ∀ q, q = true → (wi a1 (fLi w) (fMi w) = q ↔ ((nI w = 0 ∧ wi a1 20 500 = true) ∨ (nI w = 1 ∧ wi a1 0 4 = true) ∨ (nI w = 2 ∧ wi a1 0 3 = true))) := by
    intro q hq
    subst hq
    have : w = 0 ∨ w = 1 ∨ w = 2 := by omega
    rcases this with e | e | e
    · subst e
      exact ⟨fun y => Or.inl ⟨rfl, y⟩, fun y => y.elim (fun y => y.2) (fun y => y.elim (fun y => absurd y.1 (by decide)) (fun y => absurd y.1 (by decide)))⟩
    · subst e
      exact ⟨fun y => Or.inr (Or.inl ⟨rfl, y⟩), fun y => y.elim (fun y => absurd y.1 (by decide)) (fun y => y.elim (fun y => y.2) (fun y => absurd y.1 (by decide)))⟩
    · subst e
      exact ⟨fun y => Or.inr (Or.inr ⟨rfl, y⟩), fun y => y.elim (fun y => absurd y.1 (by decide)) (fun y => y.elim (fun y => absurd y.1 (by decide)) (fun y => y.2))⟩
  refine n_isWithin ⟨fun y => ?_, fun y => n_setM (fun q => ?_) (fun _ => ⟨rfl, h'⟩)⟩
  · have hin := (hok true rfl).mp (b2_1.mp y)
    obtain ⟨hS1, hS2, hS3, hS4, hS5⟩ := hG.2.1.1
    obtain ⟨hR1, hR2, hR3, hR4, hR5⟩ := hG.2.2.1.1
    have hP := hG.1.1
    have hb := wi_eq.mp (b2_1.mp y)
    obtain ⟨x, hx, rfl⟩ : ∃ x : Nat, x < 2147483648 ∧ a1 = nI x := by
      refine nI_of_int ?_
      have : 0 ≤ (fLi w).toInt := by
        unfold fLi
        split <;> decide
      omega
    rw [nI_int hx] at hb
    let P' : PB := ((bL (qP G), bl (qP G)), (bc (qP G), bp (qP G)), (bh (qP G), bT (qP G), bV (qP G)), (if w = 0 then x else bS (qP G), if w = 1 then x else bR (qP G), if w = 2 then x else bO (qP G)))
    have hP' : POKp P' := by
      refine ⟨hP.1, hP.2.1, hP.2.2.1, ?_⟩
      show (20 ≤ (if w = 0 then x else bS (qP G)) ∧ (if w = 0 then x else bS (qP G)) ≤ 500) ∧ (if w = 1 then x else bR (qP G)) ≤ 4 ∧ (if w = 2 then x else bO (qP G)) ≤ 3
      have h3 := hP.2.2.2
      have : w = 0 ∨ w = 1 ∨ w = 2 := by omega
      rcases this with e | e | e
      · subst e
        have e1 : (fLi 0).toInt = 20 := by decide
        have e2 : (fMi 0).toInt = 500 := by decide
        rw [if_pos rfl, if_neg (by decide), if_neg (by decide)]
        omega
      · subst e
        have e2 : (fMi 1).toInt = 4 := by decide
        rw [if_neg (by decide), if_pos rfl, if_neg (by decide)]
        omega
      · subst e
        have e2 : (fMi 2).toInt = 3 := by decide
        rw [if_neg (by decide), if_neg (by decide), if_pos rfl]
        omega
    have set3 : ∀ f : Nat → Int32, (f 0 = nI (bS (qP G)) ∧ f 1 = nI (bR (qP G)) ∧ f 2 = nI (bO (qP G))) → upd f w (nI x) 0 = nI (if w = 0 then x else bS (qP G)) ∧ upd f w (nI x) 1 = nI (if w = 1 then x else bR (qP G)) ∧ upd f w (nI x) 2 = nI (if w = 2 then x else bO (qP G)) := by
      intro f hf
      have : w = 0 ∨ w = 1 ∨ w = 2 := by omega
      rcases this with e | e | e
      · subst e
        rw [if_pos rfl, if_neg (by decide), if_neg (by decide), pk_us, pk_un (by decide), pk_un (by decide)]
        exact ⟨rfl, hf.2⟩
      · subst e
        rw [if_neg (by decide), if_pos rfl, if_neg (by decide), pk_us, pk_un (by decide), pk_un (by decide)]
        exact ⟨hf.1, rfl, hf.2.2⟩
      · subst e
        rw [if_neg (by decide), if_neg (by decide), if_pos rfl, pk_us, pk_un (by decide), pk_un (by decide)]
        exact ⟨hf.1, hf.2.1, rfl⟩
    have same : c.1 12 w = m.1 1 w := by
      have : w = 0 ∨ w = 1 ∨ w = 2 := by omega
      rcases this with e | e | e
      · subst e; exact hS5.1.trans hR5.1.symm
      · subst e; exact hS5.2.1.trans hR5.2.1.symm
      · subst e; exact hS5.2.2.trans hR5.2.2.symm
    refine n_record hG.1 hG.2.1 k1 k3 (fun ct2 kp2 kr2 hRc => n_pick (by decide) (n_put (by decide) ?_))
    rw [pk_n (by decide) hw, pt_n (by decide) hw]
    intro s13 h13
    have f12 : s13.1 12 = upd (c.1 12) w (nI x) := by rw [h13]; rfl
    have fo : ∀ k, k ≠ 12 → s13.1 k = c.1 k := fun k q => by rw [h13]; exact if_neg q
    have hS' : SXp s13 P' := by
      refine ⟨fun u hu => ?_, fun e he => by rw [fo 6 (by decide)]; exact hS2 e he, fun e he => by rw [fo 7 (by decide)]; exact hS3 e he, fun u hu => ?_, ?_⟩
      · have := hS1 u hu
        unfold CDX at this ⊢
        rw [fo 3 (by decide), fo 2 (by decide), fo 4 (by decide)]
        exact this
      · rw [fo 9 (by decide), fo 10 (by decide), fo 11 (by decide)]
        exact hS4 u hu
      · rw [f12]
        exact set3 _ hS5
    have hZ' : Z0 s13 := by
      have := SxG_Z0 hG.1 hG.2.1
      unfold Z0 at this ⊢
      rw [fo 14 (by decide), fo 15 (by decide), fo 16 (by decide), fo 18 (by decide)]
      exact this
    refine n_change p hG k3 k4 k5 k6 hRc hP' hS' hZ' (fun s' hs' _ anew => n_setM (fun _ => ⟨fun _ => n_saves k3.1 k2 (fun y1 hM => ?_), fun y => absurd y (by decide)⟩) (fun q => absurd hin q))
    have y11 : y1.1 1 = m.1 1 := hM.1.1 1 (by decide)
    rw [nI_clamp (by omega)]
    have vw := vp_in_nI (n := w) (N := 812) (by omega) (by decide)
    refine ⟨vw, fun x6 h6 => ⟨vw, fun s7 h7 => ?_⟩⟩
    have g1 : s7.1 1 = upd (m.1 1) w (nI x) := by rw [h7, ← y11]; rfl
    refine anew y1 s7 t L len _ hM (fun q hq => by rw [h7]; exact if_neg hq) (fun q _ => by rw [h7]; rfl) ?_ (txt_k hT (by rw [h7]; exact hM.1.1 5 (by decide)) (by rw [h7]; exact hM.1.2.2 6 (by decide))) (fun y3 _ hI => ⟨?_, hI⟩)
    · rw [g1]
      have un : ∀ q, 3 ≤ q → upd (m.1 1) w (nI x) q = m.1 1 q := fun q hq => pk_un (by omega)
      refine ⟨fun u hu => ?_, fun e he => by rw [un _ (by omega)]; exact hR2 e he, fun e he => by rw [un _ (by omega)]; exact hR3 e he, fun u hu => ?_, set3 _ hR5⟩
      · obtain ⟨w1, w2⟩ := hR1 u hu
        exact ⟨by rw [un _ (by omega)]; exact w1, fun i hi => by rw [un _ (by omega)]; exact w2 i hi⟩
      · obtain ⟨w1, w2⟩ := hR4 u hu
        refine ⟨by rw [un _ (by omega)]; exact w1, fun k hk => ?_⟩
        rw [un _ (by omega), un _ (by omega)]
        exact w2 k hk
    · rw [h6, y11]; exact same
  · exfalso
    have := (hok true rfl).mpr q
    rw [this] at y
    exact absurd y (by decide)
