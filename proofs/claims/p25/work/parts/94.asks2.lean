/-! further questions: breakAt, crossing, greatest, count, differs -/
section
variable {A : AB} {t c r p : RT} {ct : Int32} {kp sl : Nat → Option Nat} {kr sr : Nat → RT}
theorem cx_breakAt {a0 a1 : Int32} {K : Int32 → Prop} (hA : AOK A) (h : HLD A t c r ct kp kr sl sr) (hK : K (qr_brk A a0 a1)) : wp_X9_breakAt t c r p ct kp kr sl sr a0 a1 K := by
  have hX := h.2.1.2.1
  have hn := (brk_ok hA.1.1 hA.1.2.1).1.1
  unfold qr_brk at hK
  refine ⟨fun q => ?_, fun q => n_isWithin ⟨fun w => ?_, fun w => ?_⟩⟩
  · rw [if_pos (Or.inl q)] at hK
    exact hK
  · rw [if_neg (fun z => z.elim q (fun z => by rw [b2_1.mp w] at z; exact absurd z (by decide)))] at hK
    have w' := b2_1.mp w
    obtain ⟨k, hk, rfl⟩ := nI_of q
    rw [hX.1]
    rw [nI_clamp hk] at hK
    have hj : ¬ (nI (qn (aG A)) ≤ nI k ∨ (nI k = 0 ∧ a1 = 2)) → k < qn (aG A) → jp_X9_breakAt_44 t c r p ct kp kr sl sr (nI k) a1 K := by
      intro h2 hkn
      rw [if_neg h2] at hK
      refine ⟨fun e0 => n_pick (by decide) ?_, fun e0 => ⟨fun e1 => n_pick (by decide) ?_, fun e1 => n_pick (by decide) ?_⟩⟩
      · rw [pk_n (by decide) (by omega), (hX.2 k hkn).1]
        rw [if_pos e0] at hK
        exact hK
      · rw [pk_n (by decide) (by omega), (hX.2 k hkn).2.1]
        rw [if_neg e0, if_pos e1] at hK
        exact hK
      · rw [pk_n (by decide) (by omega), (hX.2 k hkn).2.2]
        rw [if_neg e0, if_neg e1] at hK
        exact hK
    refine ⟨fun z => ?_, fun z => ?_⟩
    · rw [if_pos (Or.inl z)] at hK
      exact hK
    · have hkn : k < qn (aG A) := by
        rcases Nat.lt_or_ge k (qn (aG A)) with y | y
        · exact y
        · exact absurd (nI_le y (by omega)) z
      refine ⟨fun e => hj (fun y => y.elim z (fun y => e y.1)) hkn, fun e => ⟨fun e2 => hj (fun y => y.elim z (fun y => e2 y.2)) hkn, fun e2 => ?_⟩⟩
      rw [if_pos (Or.inr ⟨e, e2⟩)] at hK
      exact hK
  · rw [if_pos (Or.inr (wi_no w))] at hK
    exact hK
theorem cx_crossing {a0 a1 a2 : Int32} {K : Int32 → Prop} (hA : AOK A) (h : HLD A t c r ct kp kr sl sr) (hK : K (qr_cross A a0 a1 a2)) : wp_X9_crossing t c r p ct kp kr sl sr a0 a1 a2 K := by
  obtain ⟨g1, g2, g3, g4, g5, g6, g7, hP, hS⟩ := aX hA h
  have gt : ((aT A).2.2 ((aT A).1 * 8)).toInt = ((aT A).2.1 : Int) := by rw [g1]; exact nI_int (by omega)
  have e1' : (1 : Int32).toInt = 1 := by decide
  have e8' : (8000 : Int32).toInt = 8000 := by decide
  unfold qr_cross at hK
  refine n_isVariable ⟨fun z => ?_, fun z => n_isWithin ⟨fun y => ?_, fun y => n_isWithin ⟨fun x => ?_, fun x => ?_⟩⟩⟩
  · rw [if_neg (fun w => by rw [wi_no z] at w; exact absurd w.1 (by decide))] at hK
    exact hK
  · rw [if_neg (fun w => by rw [wi_no y] at w; exact absurd w.2.1 (by decide))] at hK
    exact hK
  · rw [if_pos ⟨b2_1.mp z, b2_1.mp y, b2_1.mp x⟩] at hK
    obtain ⟨v, hv, rfl⟩ := wi02 (b2_1.mp z)
    have hb := wi_eq.mp (b2_1.mp x)
    obtain ⟨f, hf, rfl⟩ := nI_of_int (x := a2) (by omega)
    rw [nI_int hf] at hb
    rw [nI_clamp (show v < 2147483648 by omega), nI_clamp hf] at hK
    have tb := fun u => tv_bd (n := (aT A).1) (g := (aT A).2.2) (u := u) hP hv
    obtain ⟨ans, hans⟩ : ∃ ans, crN (tvA A v) a1.toInt (aT A).2.1 8001 f = ans := ⟨_, rfl⟩
    rw [hans] at hK
    refine n_endTime g5 (by omega) g1 ⟨fun q => ?_, fun q => ?_⟩
    · have hfe := (nI_leI (by omega) (by omega)).mp q
      rw [p1 (show f ≠ 0 by omega)]
      refine n_stepTo g5 g6 ?_
      rw [nI_int (show f - 1 < 2147483648 by omega)]
      refine n_valS hP g5 g6 g7 hv (by omega) (by omega) ?_
      rw [iz_cmp (bd1_bd2 (tb _))]
      have key : ∀ (F t' : Nat) (b : Bool), 1 ≤ t' → t' ≤ (aT A).2.1 + 1 → 8001 ≤ F + t' → (b = true ↔ tvA A v (t' - 1) < a1.toInt) → crN (tvA A v) a1.toInt (aT A).2.1 (F + 1) t' = ans → lp_X9_crossing_92 t c r p ct kp kr sl sr (nI v) a1 (nI f) K (F + 1) (nI (aT A).2.1) (nI (stT (aT A).1 (aT A).2.2 ((t' - 1 : Nat) : Int))) (b2 b) (nI t') := by
        intro F
        induction F with
        | zero =>
          intro t' b h1 h2 h3 h4 h5
          refine ⟨fun _ => ?_, fun q => absurd (nI_lt (by omega) (by omega)) q⟩
          rw [← h5, show crN (tvA A v) a1.toInt (aT A).2.1 (0 + 1) t' = -2000000004 from if_pos (show (aT A).2.1 < t' by omega)] at hK
          exact hK
        | succ F ih =>
          intro t' b h1 h2 h3 h4 h5
          unfold crN at h5
          refine ⟨fun q => ?_, fun q => ?_⟩
          · rw [if_pos ((nI_ltI (by omega) (by omega)).mp q)] at h5
            rw [← h5] at hK
            exact hK
          · have hte : ¬ (aT A).2.1 < t' := fun w => q (nI_lt w (by omega))
            rw [if_neg hte] at h5
            obtain ⟨s1, s2, s3⟩ := stT_next (t := t' - 1) g6 (by omega)
            rw [show t' - 1 + 1 = t' by omega] at s1 s2
            have nt : nI t' + 1 = nI (t' + 1) := nI_1 t'
            have et : (nI t').toInt = (t' : Int) := nI_int (by omega)
            have j114 : jp_X9_crossing_114 t c r p ct kp kr sl sr (nI v) a1 (nI f) K (fun v0 v1 v2 v3 => lp_X9_crossing_92 t c r p ct kp kr sl sr (nI v) a1 (nI f) K (F + 1) v0 v1 v2 v3) (nI (aT A).2.1) (nI (stT (aT A).1 (aT A).2.2 (t' : Int))) (b2 b) (nI t') := by
              refine n_valS hP g5 g6 g7 hv (by omega) (by omega) ?_
              rw [iz_cmp (bd1_bd2 (tb _))]
              have go : ∀ b' : Bool, (b' = true ↔ tvA A v t' < a1.toInt) → ¬ (a1.toInt ≤ tvA A v t' ∧ tvA A v (t' - 1) < a1.toInt) → jp_X9_crossing_148 t c r p ct kp kr sl sr (nI v) a1 (nI f) K (fun v0 v1 v2 v3 => lp_X9_crossing_92 t c r p ct kp kr sl sr (nI v) a1 (nI f) K (F + 1) v0 v1 v2 v3) (nI (aT A).2.1) (nI (stT (aT A).1 (aT A).2.2 (t' : Int))) (nI t') (b2 b') := by
                intro b' hb' hno x18 h18
                rw [nt] at h18
                subst h18
                rw [if_neg hno] at h5
                exact ih (t' + 1) b' (by omega) (by omega) (by omega) hb' h5
              have ev : tvA A v t' = tvZ (aP A) (aT A).1 (aT A).2.2 v (nI t') := rfl
              rw [← ev]
              refine ⟨fun w => ⟨fun w2 => go false ⟨fun w3 => absurd w3 (by decide), fun w3 => by omega⟩ (fun w3 => ?_), fun w2 => ⟨fun w3 => absurd rfl w3, fun _ => ?_⟩⟩, fun w => ⟨fun w2 => go true ⟨fun _ => by omega, fun _ => rfl⟩ (fun w3 => by omega), fun w2 => ⟨fun _ => go true ⟨fun _ => by omega, fun _ => rfl⟩ (fun w3 => by omega), fun w3 => absurd w3 (by decide)⟩⟩⟩
              · have := h4.mpr w3.2
                rw [b2_0] at w2
                rw [w2] at this
                exact absurd this (by decide)
              · have hb1 := h4.mp (b2_1.mp w2)
                rw [if_pos ⟨w, hb1⟩] at h5
                rw [← h5] at hK
                exact hK
            unfold wp_X4_endOf
            rw [ix8n]
            refine n_pick (by decide) ?_
            rw [pk_n (by decide) (by omega), g5.2 _ (by omega)]
            refine ⟨fun w => ?_, fun w x20 h20 => ?_⟩
            · rw [i_le, et] at w
              rw [← s1 w]
              exact j114
            · rw [i_le, et] at w
              rw [nI_1, ← s2 w] at h20
              subst h20
              exact j114
      have ev : tvA A v (f - 1) = tvZ (aP A) (aT A).1 (aT A).2.2 v (nI (f - 1)) := rfl
      rw [← ev]
      refine ⟨fun w => ⟨8001, ?_⟩, fun w => ⟨8001, ?_⟩⟩
      · exact key 8000 f false (by omega) (by omega) (by omega) ⟨fun w2 => absurd w2 (by decide), fun w2 => by omega⟩ hans
      · exact key 8000 f true (by omega) (by omega) (by omega) ⟨fun _ => by omega, fun _ => rfl⟩ hans
    · have hfe : (aT A).2.1 < f := by
        rcases Nat.lt_or_ge (aT A).2.1 f with w | w
        · exact w
        · exact absurd (nI_le w (by omega)) q
      rw [← hans, show crN (tvA A v) a1.toInt (aT A).2.1 8001 f = -2000000004 from if_pos hfe] at hK
      exact hK
  · rw [if_neg (fun w => by rw [wi_no x] at w; exact absurd w.2.2 (by decide))] at hK
    exact hK
theorem cx_greatest {a0 a1 a2 a3 : Int32} {K : Int32 → Prop} (hA : AOK A) (h : HLD A t c r ct kp kr sl sr) (hK : K (qr_great A a0 a1 a2 a3)) : wp_X9_greatest t c r p ct kp kr sl sr a0 a1 a2 a3 K := by
  obtain ⟨g1, g2, g3, g4, g5, g6, g7, hP, hS⟩ := aX hA h
  have gt : ((aT A).2.2 ((aT A).1 * 8)).toInt = ((aT A).2.1 : Int) := by rw [g1]; exact nI_int (by omega)
  have e0' : (0 : Int32).toInt = 0 := by decide
  have e8' : (8000 : Int32).toInt = 8000 := by decide
  unfold qr_great at hK
  refine n_isVariable ⟨fun z => ?_, fun z => n_isWithin ⟨fun y => ?_, fun y => n_isWithin ⟨fun x => ?_, fun x => n_isWithin ⟨fun u => ?_, fun u => ?_⟩⟩⟩⟩
  · rw [if_neg (fun w => by rw [wi_no z] at w; exact absurd w.1 (by decide))] at hK
    exact hK
  · rw [if_neg (fun w => by rw [wi_no y] at w; exact absurd w.2.1 (by decide))] at hK
    exact hK
  · rw [if_neg (fun w => by rw [wi_no x] at w; exact absurd w.2.2.1 (by decide))] at hK
    exact hK
  · rw [if_pos ⟨b2_1.mp z, b2_1.mp y, b2_1.mp x, b2_1.mp u⟩] at hK
    obtain ⟨v, hv, rfl⟩ := wi02 (b2_1.mp z)
    have hb := wi_eq.mp (b2_1.mp y)
    have hb2 := wi_eq.mp (b2_1.mp x)
    obtain ⟨f, hf, rfl⟩ := nI_of_int (x := a1) (by omega)
    rw [nI_int hf] at hb hb2
    obtain ⟨o, ho, rfl⟩ := nI_of_int (x := a2) (by omega)
    rw [nI_int ho] at hb2
    rw [nI_clamp (show v < 2147483648 by omega), nI_clamp hf, nI_clamp ho, nI_int ho] at hK
    have tb := fun u => tv_bd (n := (aT A).1) (g := (aT A).2.2) (u := u) hP hv
    have ntl : ∀ t : Nat, nI t + 1 = nI (t + 1) := nI_1
    have etl : ∀ t : Nat, t ≤ 8001 → (nI t).toInt = (t : Int) := fun t ht => nI_int (by omega)
    obtain ⟨fin, hfin⟩ : ∃ fin, fin = grA A v f o := ⟨_, rfl⟩
    rw [← hfin] at hK
    unfold grA at hfin
    refine n_endTime g5 (by omega) g1 ⟨fun q => ?_, fun q => ?_⟩
    · have hoe := (nI_leI (by omega) (by omega)).mp q
      rw [if_pos (by omega)] at hK
      refine n_stepTo g5 g6 ?_
      rw [etl f (by omega)]
      refine n_valS hP g5 g6 g7 hv (by omega) (by omega) (fun x13 h13 => ⟨8002, ?_⟩)
      rw [ntl] at h13
      subst h13
      have key : ∀ (F t' b : Nat), 1 ≤ t' → t' ≤ 8001 → 8002 ≤ F + t' → t' ≤ o + 1 → fin = gtN (tvA A v) o (F + 1) t' b → lp_X9_greatest_90 t c r p ct kp kr sl sr (nI v) (nI f) (nI o) a3 K (F + 1) (nI (stT (aT A).1 (aT A).2.2 ((t' - 1 : Nat) : Int))) (iz (tvA A v b)) (nI b) (nI t') := by
        intro F
        induction F with
        | zero => intro t' b _ a1; omega
        | succ F ih =>
          intro t' b a0 a1 a4 a4' a5
          unfold gtN at a5
          refine ⟨fun q => ?_, fun q => ?_⟩
          · have hq := (nI_ltI (by omega) (by omega)).mp q
            rw [if_pos hq] at a5
            subst a5
            refine ⟨fun w => ?_, fun w => ?_⟩
            · rw [if_neg w] at hK
              exact hK
            · rw [if_pos w] at hK
              exact hK
          · have hq : ¬ o < t' := fun w => q (nI_lt w (by omega))
            rw [if_neg hq] at a5
            obtain ⟨s1, s2, s3⟩ := stT_next (t := t' - 1) g6 (by omega)
            rw [show t' - 1 + 1 = t' by omega] at s1 s2
            have j111 : jp_X9_greatest_111 t c r p ct kp kr sl sr (nI v) (nI f) (nI o) a3 K (fun v0 v1 v2 v3 => lp_X9_greatest_90 t c r p ct kp kr sl sr (nI v) (nI f) (nI o) a3 K (F + 1) v0 v1 v2 v3) (nI (stT (aT A).1 (aT A).2.2 (t' : Int))) (iz (tvA A v b)) (nI b) (nI t') := by
              refine n_valS hP g5 g6 g7 hv (by omega) (by omega) ?_
              have cmpA : (iz (tvZ (aP A) (aT A).1 (aT A).2.2 v (nI t')) ≤ iz (tvA A v b)) ↔ tvA A v t' ≤ tvA A v b := (iz_cmp (bd1_bd2 (tb (nI b)))).trans (by rw [iz_r2 (bd1_bd2 (tb (nI t')))]; exact Iff.rfl)
              rw [cmpA, ntl]
              have eN : (t' + 1 - 1 : Nat) = t' := by omega
              refine ⟨fun w x20 h20 => ?_, fun w x21 h21 => ?_⟩
              · subst h20
                rw [if_neg (by omega)] at a5
                have := ih (t' + 1) b (by omega) (by omega) (by omega) (by omega) a5
                rw [eN] at this
                exact this
              · subst h21
                rw [if_pos (by omega)] at a5
                have := ih (t' + 1) t' (by omega) (by omega) (by omega) (by omega) a5
                rw [eN] at this
                exact this
            unfold wp_X4_endOf
            rw [ix8n]
            refine n_pick (by decide) ?_
            rw [pk_n (by decide) (by omega), g5.2 _ (by omega)]
            refine ⟨fun w => ?_, fun w x22 h22 => ?_⟩
            · rw [i_le, etl t' (by omega)] at w
              rw [← s1 w]
              exact j111
            · rw [i_le, etl t' (by omega)] at w
              rw [nI_1, ← s2 w] at h22
              subst h22
              exact j111
      exact key 8001 (f + 1) f (by omega) (by omega) (by omega) (by omega) hfin
    · rw [if_neg (fun w => q (nI_le (by omega) (by omega)))] at hK
      exact hK
  · rw [if_neg (fun w => by rw [wi_no u] at w; exact absurd w.2.2.2 (by decide))] at hK
    exact hK
theorem cx_count {a0 : Int32} {K : Int32 → Prop} (hA : AOK A) (h : HLD A t c r ct kp kr sl sr) (h6 : ¬ a0 = 6) (hK : K (qr_count A a0)) : wp_X9_count t c r p ct kp kr sl sr a0 K := by
  obtain ⟨g1, g2, g3, g4, g5, g6, g7, hP, hS⟩ := aX hA h
  have pc : ∀ (k i : Nat) (a x : Int32), a = nI i → i < 3 → c.1 k i = x → K x → wp_X9_pick 3 (c.1 k) a K := fun k i a x e hi hx hJ => by rw [e]; exact n_pick (by decide) (by rw [pk_n (by decide) hi, hx]; exact hJ)
  have pz : ∀ i, i < 3 → c.1 7 i = iz (bp (aP A) i) := fun i hi => by
    have hb := hP.2.1 i hi
    apply i_ext
    rw [iz_toInt ⟨by omega, by omega⟩]
    exact hS.2.2.1 i hi
  unfold qr_count at hK
  refine ⟨fun e => ?_, fun e0 => ⟨fun e => ?_, fun e1 => ⟨fun e => ?_, fun e2 => ⟨fun e => ?_, fun e3 => ⟨fun e => ?_, fun e4 => ⟨fun e => ?_, fun e5 => ⟨fun e => absurd e h6, fun e6 => ⟨fun e => ?_, fun e7 => ⟨fun e => ?_, fun e8 => ⟨fun e => ?_, fun e9 => ⟨fun e => ?_, fun e10 => ⟨fun e => ?_, fun e11 => ⟨fun e => ?_, fun e12 => ⟨fun e => ?_, fun e13 => ⟨fun e => ?_, fun e14 => ?_⟩⟩⟩⟩⟩⟩⟩⟩⟩⟩⟩⟩⟩⟩⟩
  · rw [if_pos e] at hK; exact pc 12 0 _ _ e (by decide) hS.2.2.2.2.1 hK
  · rw [if_neg e0, if_pos e] at hK; exact pc 12 1 _ _ e (by decide) hS.2.2.2.2.2.1 hK
  · rw [if_neg e0, if_neg e1, if_pos e] at hK; exact pc 12 2 _ _ e (by decide) hS.2.2.2.2.2.2 hK
  · rw [if_neg e0, if_neg e1, if_neg e2, if_pos e] at hK; exact n_endTime g5 (by omega) g1 hK
  · rw [if_neg e0, if_neg e1, if_neg e2, if_neg e3, if_pos e] at hK; rw [g3]; exact hK
  · rw [if_neg e0, if_neg e1, if_neg e2, if_neg e3, if_neg e4, if_pos e] at hK; rw [h.2.1.2.1.1]; exact hK
  · rw [if_neg e0, if_neg e1, if_neg e2, if_neg e3, if_neg e4, if_neg e5, if_pos e] at hK; rw [h.2.2.1]; exact hK
  · rw [if_neg e0, if_neg e1, if_neg e2, if_neg e3, if_neg e4, if_neg e5, if_neg e7, if_pos e] at hK; exact pc 9 0 _ _ (by rw [e]; rfl) (by decide) (hS.2.2.2.1 0 (by decide)).1 hK
  · rw [if_neg e0, if_neg e1, if_neg e2, if_neg e3, if_neg e4, if_neg e5, if_neg e7, if_neg e8, if_pos e] at hK; exact pc 9 1 _ _ (by rw [e]; rfl) (by decide) (hS.2.2.2.1 1 (by decide)).1 hK
  · rw [if_neg e0, if_neg e1, if_neg e2, if_neg e3, if_neg e4, if_neg e5, if_neg e7, if_neg e8, if_neg e9, if_pos e] at hK; exact pc 9 2 _ _ (by rw [e]; rfl) (by decide) (hS.2.2.2.1 2 (by decide)).1 hK
  · rw [if_neg e0, if_neg e1, if_neg e2, if_neg e3, if_neg e4, if_neg e5, if_neg e7, if_neg e8, if_neg e9, if_neg e10, if_pos e] at hK; exact pc 7 0 _ _ (by rw [e]; rfl) (by decide) (pz 0 (by decide)) hK
  · rw [if_neg e0, if_neg e1, if_neg e2, if_neg e3, if_neg e4, if_neg e5, if_neg e7, if_neg e8, if_neg e9, if_neg e10, if_neg e11, if_pos e] at hK; exact pc 7 1 _ _ (by rw [e]; rfl) (by decide) (pz 1 (by decide)) hK
  · rw [if_neg e0, if_neg e1, if_neg e2, if_neg e3, if_neg e4, if_neg e5, if_neg e7, if_neg e8, if_neg e9, if_neg e10, if_neg e11, if_neg e12, if_pos e] at hK; exact pc 7 2 _ _ (by rw [e]; rfl) (by decide) (pz 2 (by decide)) hK
  · rw [if_neg e0, if_neg e1, if_neg e2, if_neg e3, if_neg e4, if_neg e5, if_neg e7, if_neg e8, if_neg e9, if_neg e10, if_neg e11, if_neg e12, if_neg e13, if_pos e] at hK
    refine n_allOps hP hS (n_usedX hP (fun w hw hu => ?_))
    obtain ⟨u1, u2⟩ := usW_ok (aP A)
    rw [Ub_uniq hw u1 (fun d hd => (hu d hd).trans (u2 d hd).symm)]
    exact hK
  · rw [if_neg e0, if_neg e1, if_neg e2, if_neg e3, if_neg e4, if_neg e5, if_neg e7, if_neg e8, if_neg e9, if_neg e10, if_neg e11, if_neg e12, if_neg e13, if_neg e14] at hK
    exact hK
theorem stepP_ok {P : PB} {a : Nat} (hP : POKp P) (h : 20 ≤ a ∧ a ≤ 500) : POKp (stepP P a) := ⟨hP.1, hP.2.1, hP.2.2.1, h, hP.2.2.2.2⟩
theorem cx_differs {a0 : Int32} {K : Int32 → RT → RT → Prop} (hA : AOK A) (h : HLD A t c r ct kp kr sl sr) (hK : ∀ r2 p2, Z0 r2 → K (qr_diff A a0) r2 p2) : wp_X9_differs t c r p ct kp kr sl sr a0 K := by
  obtain ⟨g1, g2, g3, g4, g5, g6, g7, hP, hS⟩ := aX hA h
  have k5 := h.2.2.2.2.2
  have hbt := (brk_ok hA.1.1 hA.1.2.1).1
  refine n_pickRo (by decide) (n_pickRo (by decide) ?_)
  have p1' : pk 3 fLi 0 = 20 := by
    show pk 3 fLi (nI 0) = 20
    rw [pk_n (by decide) (by decide)]; rfl
  have p2' : pk 3 fMi 0 = 500 := by
    show pk 3 fMi (nI 0) = 500
    rw [pk_n (by decide) (by decide)]; rfl
  rw [p1', p2']
  unfold qr_diff at hK
  refine n_isWithin ⟨fun z => ?_, fun z => ?_⟩
  · rw [if_pos (b2_1.mp z)] at hK
    have hb := wi_eq.mp (b2_1.mp z)
    have e20 : (20 : Int32).toInt = 20 := by decide
    have e500 : (500 : Int32).toInt = 500 := by decide
    obtain ⟨a, ha, rfl⟩ := nI_of_int (x := a0) (by omega)
    rw [nI_int ha] at hb
    rw [nI_clamp ha] at hK
    have hP' : POKp (stepP (aP A) a) := stepP_ok hP ⟨by omega, by omega⟩
    have hbr : BrkOK (stepP (aP A) a) (qn (aG A)) (qT (aG A)) (qO (aG A)) (qD (aG A)) := hA.1.2.1
    refine n_copyProblem (fun s6 hc => ?_)
    obtain ⟨c2, c3, c4, c6, c7, c9, c10, c11, c12, c13, c14⟩ := hc
    have hS6 : SXp s6 (aP A) := SXp_cp hP hS c2 c3 c4 c6 c7 c9 c10 c11 c12
    refine n_put (by decide) ?_
    rw [show (0 : Int32) = nI 0 from rfl, pt_n (by decide) (by decide)]
    intro s9 h9
    have fo : ∀ k, k ≠ 12 → s9.1 k = s6.1 k := fun k q => by rw [h9]; exact if_neg q
    have hS9 : SXp s9 (stepP (aP A) a) := by
      obtain ⟨hS1, hS2, hS3, hS4, hS5⟩ := hS6
      refine ⟨fun u hu => ?_, fun e he => by rw [fo 6 (by decide)]; exact hS2 e he, fun e he => by rw [fo 7 (by decide)]; exact hS3 e he, fun u hu => ?_, ?_⟩
      · have := hS1 u hu
        unfold CDX at this ⊢
        rw [fo 3 (by decide), fo 2 (by decide), fo 4 (by decide)]
        exact this
      · rw [fo 9 (by decide), fo 10 (by decide), fo 11 (by decide)]
        exact hS4 u hu
      · have f12 : s9.1 12 = upd (s6.1 12) 0 (nI a) := by rw [h9]; rfl
        rw [f12, pk_us, pk_un (by decide), pk_un (by decide)]
        exact ⟨rfl, hS5.2⟩
    have hZ9 : Z0 s9 := by
      have := k5
      unfold Z0 at this ⊢
      rw [fo 14 (by decide), fo 15 (by decide), fo 16 (by decide), fo 18 (by decide), c13 14 (by decide), c13 15 (by decide), c13 16 (by decide), c13 18 (by decide)]
      exact this
    refine n_restartX hP' hS9 hZ9 (fun s11 nb' T' O' D' a1 a2 a3 a4 _ => ?_)
    obtain ⟨eb, eb2⟩ := rep_uniq a3.1 hbr.1 a3.2 hbr.2
    subst eb
    have hB11 := BX_congr a2 eb2
    have gok0 : GOK (stepP (aP A) a) (qT (aG A)) (qn (aG A)) 0 (0, 0, g00 (stepP (aP A) a)) := GOK_0 hP'
    refine n_endTime g5 (by omega) g1 ?_
    refine n_advance (st := (0, 0, g00 (stepP (aP A) a))) hP' hbt (show 0 < 512 by decide) a1 hB11 a4 gok0 (Nat.zero_le _) g2 (fun s13 s14 hs hX => ?_)
    obtain ⟨go1, go2⟩ := goN_ok hP' hbt (show 0 < 512 by decide) g2 8000 (0, 0, g00 (stepP (aP A) a)) (fun _ => gok0) (GOK_mono gok0 (by omega)) (Nat.zero_le _) (by show (aT A).2.1 - 0 ≤ 8000; omega)
    have hn2 := GOK_n hbt go1 (by omega)
    have hst : trT A a = goN (stepP (aP A) a) (qT (aG A)) (qn (aG A)) 8000 (aT A).2.1 (0, 0, g00 (stepP (aP A) a)) := rfl
    rw [hst] at hK
    generalize goN (stepP (aP A) a) (qT (aG A)) (qn (aG A)) 8000 (aT A).2.1 (0, 0, g00 (stepP (aP A) a)) = st2 at hX go1 go2 hn2 hK
    have hZ14 : Z0 s14 := Z0_of hP' hbr (BX_18 hB11 hs) hX go1.1
    have hbX := fun v (hv : v < 3) => stX_bd g6 hv
    have hbX2 := fun v (hv : v < 3) => stX_bd go1.1 hv
    exact n_diffX g5 hX (by omega) (by omega) hbX hbX2 (hK _ _ hZ14)
  · rw [if_neg (fun w => by rw [wi_no z] at w; exact absurd w (by decide))] at hK
    exact hK _ _ k5
end
