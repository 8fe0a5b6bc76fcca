/-! greatest values -/
def gtN (tv : Nat → Int) (te : Nat) : Nat → Nat → Nat → Nat
  | 0, _, b => b
  | f + 1, t, b => if te < t then b else if tv b < tv t then gtN tv te f (t + 1) t else gtN tv te f (t + 1) b
theorem PT_greatest_ok : PT_greatest Inv := by
  intro j tt c r p ct kp kr sl sr m a0 a1 a2 a3 hj h
  have h' := Inv_s h
  obtain ⟨_, ⟨G, hG⟩, _⟩ := h
  obtain ⟨g1, g2, g3, g4, g5⟩ := cur_end hG
  have hn := pth_n hG.1
  have gok := pth_ok hG.1
  have hP := hG.1.1
  have e0' : (0 : Int32).toInt = 0 := by decide
  have e8' : (8000 : Int32).toInt = 8000 := by decide
  have gt : ((pth G).2.2 ((pth G).1 * 8)).toInt = ((pth G).2.1 : Int) := by rw [g1]; exact nI_int (by omega)
  refine n_isVariable ⟨fun z => n_isThree ⟨fun _ => ⟨rfl, h'⟩, fun w => absurd z w⟩, fun z => n_isWithin ⟨fun y => n_isThree ⟨fun w => absurd w z, fun _ => n_within ⟨fun _ => ⟨rfl, h'⟩, fun w => absurd y w⟩⟩, fun y => n_isWithin ⟨fun x => n_isThree ⟨fun w => absurd w z, fun _ => n_within ⟨fun w => absurd w y, fun _ => n_within ⟨fun _ => ⟨rfl, h'⟩, fun w => absurd x w⟩⟩⟩, fun x => n_isWithin ⟨fun u => ?_, fun u => n_isThree ⟨fun w => absurd w z, fun _ => n_within ⟨fun w => absurd w y, fun _ => n_within ⟨fun w => absurd w x, fun _ => n_within ⟨fun w => absurd u w, fun _ => ⟨rfl, h'⟩⟩⟩⟩⟩⟩⟩⟩⟩
  obtain ⟨v, hv, rfl⟩ := wi02 (b2_1.mp z)
  have hb := wi_eq.mp (b2_1.mp y)
  have hb2 := wi_eq.mp (b2_1.mp x)
  obtain ⟨f, hf, rfl⟩ := nI_of_int (x := a1) (by omega)
  rw [nI_int hf] at hb hb2
  obtain ⟨o, ho, rfl⟩ := nI_of_int (x := a2) (by omega)
  rw [nI_int ho] at hb2
  have tb := fun u => tv_bd (n := (pth G).1) (g := (pth G).2.2) (u := u) hP hv
  have ntl : ∀ t : Nat, nI t + 1 = nI (t + 1) := nI_1
  have etl : ∀ t : Nat, t ≤ 8001 → (nI t).toInt = (t : Int) := fun t ht => nI_int (by omega)
  obtain ⟨fin, hfin⟩ : ∃ fin, fin = gtN (fun t => tvZ (qP G) (pth G).1 (pth G).2.2 v (nI t)) o 8002 (f + 1) f := ⟨_, rfl⟩
  -- the reference
  have ref : ∀ ans : Int32, o ≤ (pth G).2.1 → (a3 = 0 → ans = iz (tvZ (qP G) (pth G).1 (pth G).2.2 v (nI fin))) → (¬ a3 = 0 → ans = nI fin) → wp_X10_greatest m (nI v) (nI f) (nI o) a3 (fun v2 => ans = v2 ∧ Inv (j + 1) tt c r p ct kp kr sl sr m) := by
    intro ans hoe hans0 hans1
    refine n_isThree ⟨fun w => absurd w z, fun _ => n_within ⟨fun w => absurd w y, fun _ => n_within ⟨fun w => absurd w x, fun _ => n_within ⟨fun _ => ?_, fun w => absurd w u⟩⟩⟩⟩
    rw [g3]
    refine ⟨fun _ x10 h10 => ⟨8002, ?_⟩, fun w => absurd (nI_le hoe (by omega)) w⟩
    rw [ntl] at h10
    subst h10
    have key : ∀ (F t b : Nat), t ≤ 8001 → b ≤ o → 8002 ≤ F + t → fin = gtN (fun t => tvZ (qP G) (pth G).1 (pth G).2.2 v (nI t)) o (F + 1) t b → lp_X10_greatest_61 m (nI v) (nI f) (nI o) a3 (fun v2 => ans = v2 ∧ Inv (j + 1) tt c r p ct kp kr sl sr m) (F + 1) (nI b) (nI t) := by
      intro F
      induction F with
      | zero => intro t b a1; omega
      | succ F ih =>
        intro t b a1 a2 a4 a5
        have told : ∀ (s : Nat) (K : Int64 → Prop), s ≤ o → K (lz (tvZ (qP G) (pth G).1 (pth G).2.2 v (nI s))) → wp_X10_toldValue m (nI v) (nI s) K := fun s K hs hK => n_toldValue hG.2.2.1.1.2.2.2.1 hP.2.2.1 hG.2.2.2.2 gok.1 hv (by rw [etl s (by omega)]; omega) hK
        have lzt : ∀ s : Nat, (lz (tvZ (qP G) (pth G).1 (pth G).2.2 v (nI s))).toInt = tvZ (qP G) (pth G).1 (pth G).2.2 v (nI s) := fun s => by have := tb (nI s); exact lz_toInt ⟨by omega, by omega⟩
        unfold gtN at a5
        refine ⟨fun q => ?_, fun q => ?_⟩
        · have hq := (nI_ltI (by omega) (by omega)).mp q
          rw [if_pos hq] at a5
          rw [a5] at hans0 hans1
          refine ⟨fun w => ⟨hans1 w, h'⟩, fun w => told b _ a2 ⟨?_, h'⟩⟩
          have := tb (nI b)
          rw [hans0 w, lz_i ⟨by omega, by omega⟩]
        · have hq : ¬ o < t := fun w => q (nI_lt w (by omega))
          rw [if_neg hq] at a5
          refine told t _ (by omega) (told b _ a2 ?_)
          rw [lgc_le, lzt, lzt, ntl]
          refine ⟨fun w x17 h17 => ?_, fun w x18 h18 => ?_⟩
          · subst h17
            rw [if_neg (by omega)] at a5
            exact ih (t + 1) b (by omega) a2 (by omega) a5
          · subst h18
            rw [if_pos (by omega)] at a5
            exact ih (t + 1) t (by omega) (by omega) (by omega) a5
    exact key 8001 (f + 1) f (by omega) (by omega) (by omega) hfin
  refine n_endTime hG.2.1.2.2 (by omega) g1 ⟨fun q => ?_, fun q => n_isThree ⟨fun w => absurd w z, fun _ => n_within ⟨fun w => absurd w y, fun _ => n_within ⟨fun w => absurd w x, fun _ => n_within ⟨fun _ => ?_, fun w => absurd w u⟩⟩⟩⟩⟩
  · have hoe := (nI_leI (by omega) (by omega)).mp q
    refine n_stepTo hG.2.1.2.2 gok.1 ?_
    rw [etl f (by omega)]
    refine n_valS hP hG.2.1.2.2 gok.1 gok.2.1 hv (by omega) (by omega) (fun x13 h13 => ⟨8002, ?_⟩)
    rw [ntl] at h13
    subst h13
    have key : ∀ (F t b : Nat), 1 ≤ t → t ≤ 8001 → 8002 ≤ F + t → t ≤ o + 1 → fin = gtN (fun t => tvZ (qP G) (pth G).1 (pth G).2.2 v (nI t)) o (F + 1) t b → lp_X9_greatest_90 tt c r p ct kp kr sl sr (nI v) (nI f) (nI o) a3 (fun v1 => wp_X10_greatest m (nI v) (nI f) (nI o) a3 (fun v2 => v1 = v2 ∧ Inv (j + 1) tt c r p ct kp kr sl sr m)) (F + 1) (nI (stT (pth G).1 (pth G).2.2 ((t - 1 : Nat) : Int))) (iz (tvZ (qP G) (pth G).1 (pth G).2.2 v (nI b))) (nI b) (nI t) := by
      intro F
      induction F with
      | zero => intro t b _ a1; omega
      | succ F ih =>
        intro t b a0 a1 a4 a4' a5
        unfold gtN at a5
        refine ⟨fun q => ?_, fun q => ?_⟩
        · have hq := (nI_ltI (by omega) (by omega)).mp q
          rw [if_pos hq] at a5
          exact ⟨fun w => ref _ hoe (fun w2 => absurd w2 w) (fun _ => by rw [a5]), fun w => ref _ hoe (fun _ => by rw [a5]) (fun w2 => absurd w w2)⟩
        · have hq : ¬ o < t := fun w => q (nI_lt w (by omega))
          rw [if_neg hq] at a5
          obtain ⟨s1, s2, s3⟩ := stT_next (t := t - 1) gok.1 (by omega)
          rw [show t - 1 + 1 = t by omega] at s1 s2
          have j111 : jp_X9_greatest_111 tt c r p ct kp kr sl sr (nI v) (nI f) (nI o) a3 (fun v1 => wp_X10_greatest m (nI v) (nI f) (nI o) a3 (fun v2 => v1 = v2 ∧ Inv (j + 1) tt c r p ct kp kr sl sr m)) (fun v0 v1 v2 v3 => lp_X9_greatest_90 tt c r p ct kp kr sl sr (nI v) (nI f) (nI o) a3 (fun v1 => wp_X10_greatest m (nI v) (nI f) (nI o) a3 (fun v2 => v1 = v2 ∧ Inv (j + 1) tt c r p ct kp kr sl sr m)) (F + 1) v0 v1 v2 v3) (nI (stT (pth G).1 (pth G).2.2 (t : Int))) (iz (tvZ (qP G) (pth G).1 (pth G).2.2 v (nI b))) (nI b) (nI t) := by
            refine n_valS hP hG.2.1.2.2 gok.1 gok.2.1 hv (by omega) (by omega) ?_
            rw [iz_cmp (bd1_bd2 (tb _)), iz_r2 (bd1_bd2 (tb _)), ntl]
            have eN : (t + 1 - 1 : Nat) = t := by omega
            refine ⟨fun w x20 h20 => ?_, fun w x21 h21 => ?_⟩
            · subst h20
              rw [if_neg (by omega)] at a5
              have := ih (t + 1) b (by omega) (by omega) (by omega) (by omega) a5
              rw [eN] at this
              exact this
            · subst h21
              rw [if_pos (by omega)] at a5
              have := ih (t + 1) t (by omega) (by omega) (by omega) (by omega) a5
              rw [eN] at this
              exact this
          unfold wp_X4_endOf
          rw [ix8n]
          refine n_pick (by decide) ?_
          rw [pk_n (by decide) (by omega), hG.2.1.2.2.2 _ (by omega)]
          refine ⟨fun w => ?_, fun w x22 h22 => ?_⟩
          · rw [i_le, etl t (by omega)] at w
            rw [← s1 w]
            exact j111
          · rw [i_le, etl t (by omega)] at w
            rw [nI_1, ← s2 w] at h22
            subst h22
            exact j111
    exact key 8001 (f + 1) f (by omega) (by omega) (by omega) (by omega) hfin
  · rw [g3]
    exact ⟨fun w => absurd w q, fun _ => ⟨rfl, h'⟩⟩
