/-! undo, save, restore -/
def Same1M (m y : RT) : Prop := (∀ j, j ≠ 1 → y.1 j = m.1 j) ∧ y.2 = m.2
theorem Inv_row {j cn : Nat} {t c r p y : RT} {ct : Int32} {kp sl : Nat → Option Nat} {kr sr : Nat → RT} {L : Nat → Nat} {len : Nat} {G : GH} {K : RT → Prop} (hG : PrG j G) (hS : SxG G c) (hR : RwG G (y.1 1)) (hT : TxtG t y L len) (hct : ct = nI cn) (h2 : y.2.2 2 = nI cn) (hK : KG j cn kp kr (y.1 2)) (hSl : SlG j sl sr (y.1 4) (y.1 3)) (hZ : Z0 r) (h19 : y.2.2 19 = 0) (h : ∀ z, Inv (j + 1) t c r p ct kp kr sl sr z → z.2.2 2 = y.2.2 2 → z.2.2 18 = nI (pth G).2.1 → K z) : wp_X10_solvesAll y K := by
  refine n_solvesAll hG.1 hR.1 hG.2.1 hG.2.2.2 hR.2.1 hR.2.2 h19 (fun z d1 d2 d3 d4 => h z ⟨⟨L, len, txt_k hT (d1.1 5 (by decide)) d1.2.2⟩, ⟨G, PrG_mono hG (by omega), hS, by rw [d1.1 1 (by decide)]; exact hR, d3, d4⟩, ⟨cn, hct, d1.2.1.trans h2, by rw [d1.1 2 (by decide)]; exact KG_mono hK (by omega)⟩, ?_, hZ, d2⟩ d1.2.1 (d4.2.1.trans (pth_ok hG).2.2.1))
  rw [d1.1 3 (by decide), d1.1 4 (by decide)]
  exact SlG_mono hSl (by omega)
theorem PT_undo_ok : PT_undo Inv := by
  intro j t c r p ct kp kr sl sr m hj h
  have h' := Inv_s h
  obtain ⟨⟨L, len, hT⟩, ⟨G, hG⟩, ⟨cn, k1, k2, k3⟩, k4, k5, k6⟩ := h
  have h4 := k3.1
  have e01 : (1 : Int32) ≠ 0 := by decide
  unfold wp_X9_undo wp_X2_giveBack
  refine ⟨fun q => ⟨fun _ => ⟨fun w => absurd ?_ w, fun _ => ⟨rfl, h'⟩⟩, fun w => absurd rfl w⟩, fun q => ⟨fun _ => ?_, fun w => absurd (by rw [k1]; exact nI_le h4 (by decide)) w⟩⟩
  · rw [k1] at q
    have : cn ≤ 0 := (nI_leI (b := 0) (by omega) (by decide)).mp q
    rw [k2, show cn = 0 by omega]; rfl
  · have hc : 0 < cn := by
      rcases Nat.eq_zero_or_pos cn with w | w
      · exact absurd (by rw [k1, w]; exact nI_le (Nat.le_refl 0) (by decide)) q
      · exact w
    have e1 : ct - 1 = nI (cn - 1) := by rw [k1]; exact p1 (by omega)
    rw [e1, nI_clamp (by omega)]
    obtain ⟨b1, G', g1, g2, g3⟩ := k3.2 (cn - 1) (by omega)
    refine ⟨b1, n_copyFrom g1 g2 (fun s hs => ⟨fun w => absurd w e01, fun _ => ⟨fun _ s2 h2 => ⟨813, ?_⟩, fun w => ?_⟩⟩)⟩
    · rw [k2, p1 (by omega)] at h2
      have e22 : s2.2.2 2 = nI (cn - 1) := by rw [h2]; rfl
      have so : ∀ k, k ≠ 2 → s2.2.2 k = m.2.2 k := fun k hk => by rw [h2]; exact if_neg hk
      have s21 : s2.1 = m.1 := by rw [h2]; rfl
      have key : ∀ (f k : Nat) (y : RT), f + k = 813 → k ≤ 812 → Same1M s2 y → (∀ q, q < k → y.1 1 q = m.1 2 (812 * (cn - 1) + q)) → lp_X10_undo_22 (fun v2 m2 => nI (cn - 1) = v2 ∧ Inv (j + 1) t s r p (nI (cn - 1)) kp kr sl sr m2) f (nI k) y := by
        intro f
        induction f with
        | zero => intro k y a; omega
        | succ f ih =>
          intro k y a b c0 c1
          refine ⟨fun w => ?_, fun w => ?_⟩
          · have hk := (nI_leI (a := 812) (by decide) (by omega)).mp w
            have yo : ∀ q, q ≠ 1 → y.1 q = m.1 q := fun q hq => (c0.1 q hq).trans (by rw [s21])
            refine Inv_row g1 hs (RwG_congr g1 g3 (fun q hq => c1 q (by omega))) (txt_k hT (yo 5 (by decide)) (by rw [c0.2]; exact so 6 (by decide))) rfl (by rw [c0.2]; exact e22) (by rw [yo 2 (by decide)]; exact ⟨by omega, fun i hi => k3.2 i (by omega)⟩) (by rw [yo 4 (by decide), yo 3 (by decide)]; exact k4) k5 (by rw [c0.2]; exact (so 19 (by decide)).trans k6) (fun z hI z2 _ => ⟨?_, hI⟩)
            rw [z2, c0.2, e22]
          · have hk : k < 812 := by
              rcases Nat.lt_or_ge k 812 with w2 | w2
              · exact w2
              · exact absurd (nI_le w2 (by omega)) w
            have ey2 : y.2.2 2 = nI (cn - 1) := by rw [c0.2]; exact e22
            have e : (812 : Int32) * nI (cn - 1) + nI k = nI (812 * (cn - 1) + k) := by rw [show (812 : Int32) = nI 812 from rfl, pk_mul, nI_add]
            rw [ey2, e, nI_clamp (by omega), nI_clamp (by omega), c0.1 2 (by decide), s21]
            refine ⟨vp_in_nI (by omega) (by decide), vp_in_nI hk (by decide), fun s5 h5 x6 h6 => ?_⟩
            have e6 : x6 = nI (k + 1) := h6.trans (nI_1 k)
            subst h5; subst e6
            refine ih (k + 1) _ (by omega) (by omega) ⟨fun q hq => (if_neg hq).trans (c0.1 q hq), c0.2⟩ (fun q hq => ?_)
            show upd (y.1 1) k (m.1 2 (812 * (cn - 1) + k)) q = _
            by_cases e : q = k
            · subst e; exact pk_us
            · rw [pk_un e]; exact c1 q (by omega)
      exact key 813 0 s2 rfl (by decide) ⟨fun _ _ => rfl, rfl⟩ (fun q hq => by omega)
    · rw [k2] at w
      have : cn = 0 := (nI_eq (b := 0) (by omega) (by decide)).mp w
      omega
theorem sl_arg {a0 : Int32} (h0 : ¬ a0 < 0) (h2 : a0 < nI 2) : ∃ i : Nat, i < 2 ∧ a0 = nI i ∧ b2 (wi a0 0 1) ≠ 0 := by
  obtain ⟨i, hi, rfl⟩ := nI_of h0
  have h := (nI_ltI (by omega) (by decide)).mp h2
  refine ⟨i, h, rfl, ?_⟩
  have : wi (nI i) 0 1 = true := wi_eq.mpr (by rw [nI_int (by omega), show (0 : Int32).toInt = 0 by decide, show (1 : Int32).toInt = 1 by decide]; omega)
  rw [this]; decide
theorem sl_bad {a0 : Int32} (h : a0 < 0 ∨ ¬ a0 < nI 2) : b2 (wi a0 0 1) = 0 := by
  refine b2_0.mpr ?_
  cases e : wi a0 0 1 with
  | false => rfl
  | true =>
    have hb := wi_eq.mp e
    rw [show (0 : Int32).toInt = 0 by decide, show (1 : Int32).toInt = 1 by decide] at hb
    rw [i_lt, i_lt, nI_int (by decide)] at h
    simp only [Int32.toInt_zero] at h
    omega
theorem va_same (α : Type) (f : Nat → α) (i : Nat) (x : α) : va_up f i x i = x := by simp [va_up]
theorem va_ne (α : Type) (f : Nat → α) (i k : Nat) (x : α) (hk : k ≠ i) : va_up f i x k = f k := by simp [va_up, hk]
theorem PT_save_ok : PT_save Inv := by
  intro j t c r p ct kp kr sl sr m a0 hj h
  have h' := Inv_s h
  obtain ⟨⟨L, len, hT⟩, ⟨G, hG⟩, ⟨cn, k1, k2, k3⟩, k4, k5, k6⟩ := h
  obtain ⟨g1, g2, g3, g4, g5⟩ := cur_end hG
  have hn := pth_n hG.1
  have hbad : a0 < 0 ∨ ¬ a0 < nI 2 → wp_X10_save m a0 (fun v2 m2 => (-2000000001) = v2 ∧ Inv (j + 1) t c r p ct kp kr sl sr m2) := fun q => n_within ⟨fun w => absurd (sl_bad q) w, fun _ => ⟨rfl, h'⟩⟩
  refine ⟨fun q => hbad (Or.inl q), fun q => ⟨fun q2 => ?_, fun q2 => hbad (Or.inr q2)⟩⟩
  obtain ⟨i, hi, rfl, hw⟩ := sl_arg q q2
  rw [nI_clamp (by omega)]
  -- the reference
  have ref : ∀ (sl2 : Nat → Option Nat) (s : RT), SxG G s → (∃ b, sl2 i = some b) → (∀ k, k ≠ i → sl2 k = sl k) → wp_X10_save m (nI i) (fun v2 m2 => nI (pth G).2.1 = v2 ∧ Inv (j + 1) t c r p ct kp kr sl2 (va_up sr i s) m2) := by
    intro sl2 s hs hb ho
    refine n_within ⟨fun _ => ⟨813, ?_⟩, fun w => absurd w hw⟩
    have key : ∀ (f k : Nat) (y : RT), f + k = 813 → k ≤ 812 → (∀ q, q ≠ 3 → y.1 q = m.1 q) → y.2 = m.2 → (∀ q, q < k → y.1 3 (812 * i + q) = m.1 1 q) → (∀ q, q < 812 * i ∨ 812 * i + 812 ≤ q → y.1 3 q = m.1 3 q) → lp_X10_save_14 (nI i) (fun v2 m2 => nI (pth G).2.1 = v2 ∧ Inv (j + 1) t c r p ct kp kr sl2 (va_up sr i s) m2) f (nI k) y := by
      intro f
      induction f with
      | zero => intro k y a; omega
      | succ f ih =>
        intro k y a b c0 c1 c2 c3
        refine ⟨fun w => ?_, fun w => ?_⟩
        · have hk := (nI_leI (a := 812) (by decide) (by omega)).mp w
          rw [nI_clamp (by omega)]
          refine ⟨vp_in_nI hi (by decide), fun s4 h4' => ?_⟩
          have e4 : s4.1 4 = upd (m.1 4) i 1 := by rw [h4', ← c0 4 (by decide)]; rfl
          have eo : ∀ q, q ≠ 4 → s4.1 q = y.1 q := fun q hq => by rw [h4']; exact if_neg hq
          have e2 : s4.2 = m.2 := by rw [h4']; exact c1
          refine ⟨by rw [e2]; exact g3.symm, ⟨L, len, txt_k hT ((eo 5 (by decide)).trans (c0 5 (by decide))) (by rw [e2])⟩, ⟨G, PrG_mono hG.1 (by omega), hG.2.1, ?_, BM_2P hG.2.2.2.1 (fun q hq => (eo q (by omega)).trans (c0 q (by omega))) (by rw [e2]), PM_2P hG.2.2.2.2 (fun q hq => (eo q (by omega)).trans (c0 q (by omega))) (fun q _ => by rw [e2]) (by rw [e2]) (by rw [e2])⟩, ⟨cn, k1, by rw [e2]; exact k2, ?_⟩, fun u hu => ?_, k5, by rw [e2]; exact k6⟩
          · rw [eo 1 (by decide), c0 1 (by decide)]; exact hG.2.2.1
          · rw [eo 2 (by decide), c0 2 (by decide)]; exact KG_mono k3 (by omega)
          · by_cases e : u = i
            · subst e
              refine Or.inr ⟨hb, by rw [e4, pk_us], G, PrG_mono hG.1 (by omega), by rw [va_same]; exact hs, RwG_congr hG.1 hG.2.2.1 (fun q hq => ?_)⟩
              rw [eo 3 (by decide)]
              exact c2 q (by omega)
            · rw [e4, pk_un e, ho u e, va_ne _ _ _ _ _ e]
              rcases k4 u hu with w | ⟨w1, w2, G', w3, w4, w5⟩
              · exact Or.inl w
              · refine Or.inr ⟨w1, w2, G', PrG_mono w3 (by omega), w4, RwG_congr w3 w5 (fun q hq => ?_)⟩
                rw [eo 3 (by decide)]
                exact c3 _ (by omega)
        · have hk : k < 812 := by
            rcases Nat.lt_or_ge k 812 with w2 | w2
            · exact w2
            · exact absurd (nI_le w2 (by omega)) w
          have e : (812 : Int32) * nI i + nI k = nI (812 * i + k) := by rw [show (812 : Int32) = nI 812 from rfl, pk_mul, nI_add]
          rw [e, nI_clamp (by omega), nI_clamp (by omega), c0 1 (by decide)]
          refine ⟨vp_in_nI hk (by decide), vp_in_nI (by omega) (by decide), fun s5 h5 x6 h6 => ?_⟩
          have e6 : x6 = nI (k + 1) := h6.trans (nI_1 k)
          subst h5; subst e6
          refine ih (k + 1) _ (by omega) (by omega) (fun q hq => (if_neg hq).trans (c0 q hq)) c1 (fun q hq => ?_) (fun q hq => ?_)
          · show upd (y.1 3) (812 * i + k) (m.1 1 k) (812 * i + q) = _
            by_cases e : q = k
            · subst e; exact pk_us
            · rw [pk_un (by omega)]; exact c2 q (by omega)
          · show upd (y.1 3) (812 * i + k) (m.1 1 k) q = _
            rw [pk_un (by omega)]; exact c3 q hq
    exact key 813 0 m rfl (by decide) (fun _ _ => rfl) rfl (fun q hq => by omega) (fun _ _ => rfl)
  refine ⟨fun hnone => n_copyFrom hG.1 hG.2.1 (fun s hs => n_endTime hG.2.1.2.2 (by omega) g1 (fun b => ref _ s hs ⟨b, va_same _ _ _ _⟩ (fun k hk => va_ne _ _ _ _ _ hk))), fun b hb => n_copyFrom hG.1 hG.2.1 (fun s hs => n_endTime hG.2.1.2.2 (by omega) g1 (ref sl s hs ⟨b, hb⟩ (fun _ _ => rfl)))⟩
theorem PT_restore_ok : PT_restore Inv := by
  intro j t c r p ct kp kr sl sr m a0 hj h
  have h' := Inv_s h
  obtain ⟨⟨L, len, hT⟩, ⟨G, hG⟩, ⟨cn, k1, k2, k3⟩, k4, k5, k6⟩ := h
  have hbad : a0 < 0 ∨ ¬ a0 < nI 2 → wp_X10_restore m a0 (fun v2 m2 => (-2000000001) = v2 ∧ Inv (j + 1) t c r p ct kp kr sl sr m2) := fun q => n_within ⟨fun w => absurd (sl_bad q) w, fun _ => ⟨rfl, h'⟩⟩
  refine ⟨fun q => hbad (Or.inl q), fun q => ⟨fun q2 => ?_, fun q2 => hbad (Or.inr q2)⟩⟩
  obtain ⟨i, hi, rfl, hw⟩ := sl_arg q q2
  rw [nI_clamp (by omega)]
  have vi := vp_in_nI (n := i) (N := 2) hi (by decide)
  refine ⟨fun hnone => n_within ⟨fun _ => ⟨vi, fun w => ?_, fun _ => ⟨rfl, h'⟩⟩, fun w => absurd w hw⟩, fun b hb => ?_⟩
  · rw [nI_clamp (by omega)] at w
    rcases k4 i hi with w2 | ⟨⟨b, w2⟩, _⟩
    · exact absurd w2.2 w
    · rw [hnone] at w2; exact absurd w2 (by simp)
  · rcases k4 i hi with w2 | ⟨_, w1, G', w3, w4, w5⟩
    · rw [hb] at w2; exact absurd w2.1 (by simp)
    · have gok' := pth_ok w3
      have hn' := pth_n w3
      refine n_record hG.1 hG.2.1 k1 k3 (fun ct2 kp2 kr2 hRc => n_copyFrom w3 w4 (fun s hs => n_endTime hs.2.2 (by omega) gok'.2.2.1 (n_within ⟨fun _ => ⟨vi, fun _ => ?_, fun w => ?_⟩, fun w => absurd w hw⟩)))
      · refine n_saves k3.1 k2 (fun y1 hM => ⟨813, ?_⟩)
        obtain ⟨cn2, c1, c2, c3⟩ := KG_rec hG.1 k3 hG.2.2.1 hRc hM
        have yo : ∀ q, q ≠ 2 → y1.1 q = m.1 q := hM.1.1
        have key : ∀ (f k : Nat) (y : RT), f + k = 813 → k ≤ 812 → Same1M y1 y → (∀ q, q < k → y.1 1 q = m.1 3 (812 * i + q)) → lp_X10_restore_30 (nI i) (fun v2 m2 => nI (pth G').2.1 = v2 ∧ Inv (j + 1) t s r p ct2 kp2 kr2 sl sr m2) f (nI k) y := by
          intro f
          induction f with
          | zero => intro k y a; omega
          | succ f ih =>
            intro k y a b' c0 d1
            refine ⟨fun w => ?_, fun w => ?_⟩
            · have hk := (nI_leI (a := 812) (by decide) (by omega)).mp w
              have zo : ∀ q, q ≠ 1 → q ≠ 2 → y.1 q = m.1 q := fun q hq hq2 => (c0.1 q hq).trans (yo q hq2)
              refine Inv_row w3 hs (RwG_congr w3 w5 (fun q hq => d1 q (by omega))) (txt_k hT (zo 5 (by decide) (by decide)) (by rw [c0.2]; exact hM.1.2.2 6 (by decide))) c1 (by rw [c0.2]; exact c2) (by rw [c0.1 2 (by decide)]; exact c3) (by rw [zo 4 (by decide) (by decide), zo 3 (by decide) (by decide)]; exact k4) k5 (by rw [c0.2]; exact (hM.1.2.2 19 (by decide)).trans k6) (fun z hI _ z18 => ⟨z18.symm, hI⟩)
            · have hk : k < 812 := by
                rcases Nat.lt_or_ge k 812 with w2 | w2
                · exact w2
                · exact absurd (nI_le w2 (by omega)) w
              have e : (812 : Int32) * nI i + nI k = nI (812 * i + k) := by rw [show (812 : Int32) = nI 812 from rfl, pk_mul, nI_add]
              rw [e, nI_clamp (by omega), nI_clamp (by omega), c0.1 3 (by decide), yo 3 (by decide)]
              refine ⟨vp_in_nI (by omega) (by decide), vp_in_nI hk (by decide), fun s5 h5 x6 h6 => ?_⟩
              have e6 : x6 = nI (k + 1) := h6.trans (nI_1 k)
              subst h5; subst e6
              refine ih (k + 1) _ (by omega) (by omega) ⟨fun q hq => (if_neg hq).trans (c0.1 q hq), c0.2⟩ (fun q hq => ?_)
              show upd (y.1 1) k (m.1 3 (812 * i + k)) q = _
              by_cases e : q = k
              · subst e; exact pk_us
              · rw [pk_un e]; exact d1 q (by omega)
        exact key 813 0 y1 rfl (by decide) ⟨fun _ _ => rfl, rfl⟩ (fun q hq => by omega)
      · rw [nI_clamp (by omega), w1] at w
        exact absurd w (by decide)
