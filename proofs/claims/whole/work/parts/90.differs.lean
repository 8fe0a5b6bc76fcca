/-! differs -/
def abI (x : Int) : Int := if x < 0 then -x else x
def mxI (d : Nat → Int) : Nat → Int
  | 0 => 0
  | v + 1 => if mxI d v < abI (d v) then abI (d v) else mxI d v
theorem mxI_in {d : Nat → Int} : ∀ v, (∀ u, u < v → -2000000000 ≤ d u ∧ d u ≤ 2000000000) → 0 ≤ mxI d v ∧ mxI d v ≤ 2000000000 := by
  intro v
  induction v with
  | zero => intro _; exact ⟨Int.le_refl _, by show (0 : Int) ≤ 2000000000; decide⟩
  | succ v ih =>
    intro h
    have h1 := ih (fun u hu => h u (by omega))
    have h2 := h v (by omega)
    unfold mxI abI
    split <;> split <;> omega
theorem n_endValue {s : RT} {n v : Nat} {g : Nat → Int32} {K : Int32 → Prop} (hX : PX s n g) (hn : n < 961) (hv : v < 3) (h : K (iz (stX g n v))) : wp_X4_endValue s (nI v) K := by
  unfold wp_X4_endValue
  rw [hX.1, ix8, ix81]
  refine n_pick (by decide) ?_
  rw [pk_n (by decide) (by omega), hX.2 _ (by omega)]
  unfold stX at h
  rw [iz_of] at h
  exact h
theorem n_diffX {t c y_r y_p : RT} {ct : Int32} {kp sl : Nat → Option Nat} {kr sr : Nat → RT} {a0 : Int32} {n n2 : Nat} {g g2 : Nat → Int32} {K : Int32 → RT → RT → Prop} (hX : PX c n g) (hX2 : PX y_r n2 g2) (hn : n < 961) (hn2 : n2 < 961) (hb : ∀ v, v < 3 → bd1 (stX g n v)) (hb2 : ∀ v, v < 3 → bd1 (stX g2 n2 v)) (h : K (iz (hdI (mxI (fun v => stX g2 n2 v - stX g n v) 3))) y_r y_p) : ∃ m : Nat, lp_X9_differs_90 t c ct kp kr sl sr a0 K m (0 : Int64) (0 : Int32) y_r y_p := by
  have hbd : ∀ u, u < 3 → -2000000000 ≤ stX g2 n2 u - stX g n u ∧ stX g2 n2 u - stX g n u ≤ 2000000000 := fun u hu => by
    have h1 := hb u hu
    have h2 := hb2 u hu
    unfold bd1 at h1 h2
    omega
  have key : ∀ (f v : Nat), f + v = 4 → v ≤ 3 → lp_X9_differs_90 t c ct kp kr sl sr a0 K f (lz (mxI (fun v => stX g2 n2 v - stX g n v) v)) (nI v) y_r y_p := by
    intro f
    induction f with
    | zero => intro v a b; omega
    | succ f ih =>
      intro v a b
      have hm := mxI_in (d := fun v => stX g2 n2 v - stX g n v) v (fun u hu => hbd u (by omega))
      refine ⟨fun q => n_hold ?_, fun q => ?_⟩
      · have hv : v = 3 := by have := (nI_leI (a := 3) (by decide) (by omega)).mp q; omega
        subst hv
        rw [lz_toInt ⟨by omega, by omega⟩]
        exact h
      · have hv : v < 3 := by
          rcases Nat.lt_or_ge v 3 with w | w
          · exact w
          · exact absurd (nI_le w (by omega)) q
        refine n_endValue hX hn hv (fun x19 h19 => n_endValue hX2 hn2 hv (fun x21 h21 x22 h22 => ?_))
        have e22 : x22 = nI (v + 1) := h22.trans (nI_1 v)
        subst e22
        have b1 := hb v hv
        have b2 := hb2 v hv
        unfold bd1 at b1 b2
        have t1 : (iz (stX g n v)).toInt64.toInt = stX g n v := by rw [i2l]; exact iz_toInt ⟨by omega, by omega⟩
        have t2 : (iz (stX g2 n2 v)).toInt64.toInt = stX g2 n2 v := by rw [i2l]; exact iz_toInt ⟨by omega, by omega⟩
        have td : ((iz (stX g2 n2 v)).toInt64 - x19).toInt = stX g2 n2 v - stX g n v := by
          rw [h19]; exact l_sub t2 t1 ⟨by omega, by omega⟩
        generalize (iz (stX g2 n2 v)).toInt64 - x19 = dd at td h21
        have ta : (if 0 < dd then dd else -dd).toInt = abI (stX g2 n2 v - stX g n v) := by
          unfold abI
          by_cases w : 0 < dd
          · rw [if_pos w, td]
            rw [l_lt, td] at w
            simp only [Int64.toInt_zero] at w
            rw [if_neg (by omega)]
          · rw [if_neg w, l_neg td ⟨by omega, by omega⟩]
            rw [l_lt, td] at w
            simp only [Int64.toInt_zero] at w
            split <;> omega
        generalize (if 0 < dd then dd else -dd) = aa at ta h21
        have e21 : x21 = lz (mxI (fun v => stX g2 n2 v - stX g n v) (v + 1)) := by
          rw [h21]
          have hm2 := mxI_in (d := fun v => stX g2 n2 v - stX g n v) (v + 1) (fun u hu => hbd u (by omega))
          apply l_ext
          rw [lz_toInt ⟨by omega, by omega⟩]
          have em : (lz (mxI (fun v => stX g2 n2 v - stX g n v) v)).toInt = mxI (fun v => stX g2 n2 v - stX g n v) v := lz_toInt ⟨by omega, by omega⟩
          show _ = if mxI (fun v => stX g2 n2 v - stX g n v) v < abI (stX g2 n2 v - stX g n v) then abI (stX g2 n2 v - stX g n v) else mxI (fun v => stX g2 n2 v - stX g n v) v
          by_cases w : aa < lz (mxI (fun v => stX g2 n2 v - stX g n v) v)
          · rw [if_pos w, em]
            rw [l_lt, em, ta] at w
            rw [if_neg (by omega)]
          · rw [if_neg w, ta]
            rw [l_lt, em, ta] at w
            split <;> omega
        subst e21
        exact ih (v + 1) (by omega) (by omega)
  exact ⟨4, key 4 0 rfl (by decide)⟩
def Same19 (m y : RT) : Prop := y.1 = m.1 ∧ (∀ k, k ≠ 19 → y.2.1 k = m.2.1 k) ∧ y.2.2 = m.2.2
theorem PM_19 {m y : RT} {n : Nat} {g : Nat → Int32} (h : PM m n g) (hs : Same19 m y) : PM y n g := by
  unfold PM at h ⊢
  rw [hs.1, hs.2.2, hs.2.1 12 (by decide), hs.2.1 13 (by decide), hs.2.1 14 (by decide)]
  exact h
theorem PT_differs_ok : PT_differs Inv := by
  intro j t c r p ct kp kr sl sr m a0 hj h
  have h' := Inv_s h
  obtain ⟨⟨L, len, hT⟩, ⟨G, hG⟩, ⟨cn, k1, k2, k3⟩, k4, k5, k6⟩ := h
  obtain ⟨g1, g2, g3, g4, g5⟩ := cur_end hG
  have hn := pth_n hG.1
  have gok := pth_ok hG.1
  have hP := hG.1.1
  have hbt := (brk_ok hP hG.1.2.1).1
  refine n_pickRo (by decide) (n_pickRo (by decide) ?_)
  have p1' : pk 3 fLi 0 = 20 := by
    show pk 3 fLi (nI 0) = 20
    rw [pk_n (by decide) (by decide)]; rfl
  have p2' : pk 3 fMi 0 = 500 := by
    show pk 3 fMi (nI 0) = 500
    rw [pk_n (by decide) (by decide)]; rfl
  rw [p1', p2']
  refine n_isWithin ⟨fun z => ?_, fun z => n_within ⟨fun w => absurd z w, fun _ => ⟨rfl, h'⟩⟩⟩
  have hb := wi_eq.mp (b2_1.mp z)
  have e20 : (20 : Int32).toInt = 20 := by decide
  have e500 : (500 : Int32).toInt = 500 := by decide
  obtain ⟨a, ha, rfl⟩ := nI_of_int (x := a0) (by omega)
  rw [nI_int ha] at hb
  let P' : PB := ((bL (qP G), bl (qP G)), (bc (qP G), bp (qP G)), (bh (qP G), bT (qP G), bV (qP G)), (a, bR (qP G), bO (qP G)))
  have hP' : POKp P' := ⟨hP.1, hP.2.1, hP.2.2.1, by show 20 ≤ a ∧ a ≤ 500; omega, hP.2.2.2.2⟩
  have hbr : BrkOK P' (qn G) (qT G) (qO G) (qD G) := hG.1.2.1
  refine n_copyProblem (fun s6 hc => ?_)
  obtain ⟨c2, c3, c4, c6, c7, c9, c10, c11, c12, c13, c14⟩ := hc
  have hS6 : SXp s6 (qP G) := SXp_cp hP hG.2.1.1 c2 c3 c4 c6 c7 c9 c10 c11 c12
  refine n_put (by decide) ?_
  rw [show (0 : Int32) = nI 0 from rfl, pt_n (by decide) (by decide)]
  intro s9 h9
  have fo : ∀ k, k ≠ 12 → s9.1 k = s6.1 k := fun k q => by rw [h9]; exact if_neg q
  have hS9 : SXp s9 P' := by
    obtain ⟨hS1, hS2, hS3, hS4, hS5⟩ := hS6
    refine ⟨fun u hu => ?_, fun e he => by rw [fo 6 (by decide)]; exact hS2 e he, fun e he => by rw [fo 7 (by decide)]; exact hS3 e he, fun u hu => ?_, ?_⟩
    · have := hS1 u hu
      unfold CDX at this ⊢
      rw [fo 3 (by decide), fo 2 (by decide), fo 4 (by decide)]
      exact this
    · rw [fo 9 (by decide), fo 10 (by decide), fo 11 (by decide)]
      exact hS4 u hu
    · have f12 : s9.1 12 = upd (s6.1 12) 0 (nI a) := by rw [h9]; rfl
      rw [f12, pk_us, pk_un (by decide), pk_un (by decide)]
      exact ⟨rfl, hS5.2⟩
  have hZ9 : Z0 s9 := by
    have := k5
    unfold Z0 at this ⊢
    rw [fo 14 (by decide), fo 15 (by decide), fo 16 (by decide), fo 18 (by decide), c13 14 (by decide), c13 15 (by decide), c13 16 (by decide), c13 18 (by decide)]
    exact this
  refine n_restartX hP' hS9 hZ9 (fun s11 nb' T' O' D' a1 a2 a3 a4 _ => ?_)
  obtain ⟨eb, eb2⟩ := rep_uniq a3.1 hbr.1 a3.2 hbr.2
  subst eb
  have hB11 := BX_congr a2 eb2
  have gok0 : GOK P' (qT G) (qn G) 0 (0, 0, g00 P') := GOK_0 hP'
  refine n_endTime hG.2.1.2.2 (by omega) g1 ?_
  refine n_advance (st := (0, 0, g00 P')) hP' hbt (show 0 < 512 by decide) a1 hB11 a4 gok0 (Nat.zero_le _) g2 (fun s13 s14 hs hX => ?_)
  obtain ⟨go1, go2⟩ := goN_ok hP' hbt (show 0 < 512 by decide) g2 8000 (0, 0, g00 P') (fun _ => gok0) (GOK_mono gok0 (by omega)) (Nat.zero_le _) (by show (pth G).2.1 - 0 ≤ 8000; omega)
  have hn2 := GOK_n hbt go1 (by omega)
  generalize hst : goN P' (qT G) (qn G) 8000 (pth G).2.1 (0, 0, g00 P') = st2 at hX go1 go2 hn2
  have hZ14 : Z0 s14 := Z0_of hP' hbr (BX_18 hB11 hs) hX go1.1
  have hbX := fun v (hv : v < 3) => stX_bd gok.1 hv
  have hbX2 := fun v (hv : v < 3) => stX_bd go1.1 hv
  refine n_diffX hG.2.1.2.2 hX (by omega) (by omega) hbX hbX2 (n_within ⟨fun _ => ?_, fun w => absurd w z⟩)
  intro x3 h3
  rw [g3] at h3
  subst h3
  have v0 : vp_in (0 : Int32) 812 := (vp_in_nI (show 0 < 812 by decide) (by decide) : vp_in (nI 0) 812)
  refine ⟨v0, fun x4 h4 => ⟨4, ?_⟩⟩
  have e4 : x4 = m.1 1 0 := h4
  subst e4
  have te : (nI (pth G).2.1).toInt = ((pth G).2.1 : Int) := nI_int (by omega)
  have gt : ((pth G).2.2 ((pth G).1 * 8)).toInt = ((pth G).2.1 : Int) := by rw [g1]; exact te
  have gt2 : (st2.2.2 (st2.1 * 8)).toInt = ((pth G).2.1 : Int) := by rw [go1.2.2.1, go2]; exact te
  have hmx := mxI_in (d := fun v => stX st2.2.2 st2.1 v - stX (pth G).2.2 (pth G).1 v) 3 (fun u hu => by
    have h1 := hbX u hu
    have h2 := hbX2 u hu
    unfold bd1 at h1 h2
    omega)
  -- behind the trial
  have last : ∀ (s9 : RT), SameQ m s9 ∨ True → (∀ q, q ≠ 0 → s9.1 1 q = m.1 1 q) → s9.1 1 0 = nI a → (∀ k, k < 6 → k ≠ 1 → s9.1 k = m.1 k) → s9.2.2 2 = m.2.2 2 → s9.2.2 6 = m.2.2 6 → s9.2.2 19 = 0 → PM s9 st2.1 st2.2.2 → (∀ v, v < 3 → s9.2.1 19 v = lz (stX (pth G).2.2 (pth G).1 v)) → ∃ q : Nat, lp_X10_differs_84 (nI a) (fun v2 m2 => iz (hdI (mxI (fun v => stX st2.2.2 st2.1 v - stX (pth G).2.2 (pth G).1 v) 3)) = v2 ∧ Inv (j + 1) t c s14 s13 ct kp kr sl sr m2) q (nI (pth G).2.1) (m.1 1 0) (0 : Int64) (0 : Int32) s9 := by
    intro s9 _ q1 q0 q2 q3 q4 q5 q6 q7
    have key : ∀ (f v : Nat), f + v = 4 → v ≤ 3 → lp_X10_differs_84 (nI a) (fun v2 m2 => iz (hdI (mxI (fun v => stX st2.2.2 st2.1 v - stX (pth G).2.2 (pth G).1 v) 3)) = v2 ∧ Inv (j + 1) t c s14 s13 ct kp kr sl sr m2) f (nI (pth G).2.1) (m.1 1 0) (lz (mxI (fun v => stX st2.2.2 st2.1 v - stX (pth G).2.2 (pth G).1 v) v)) (nI v) s9 := by
      intro f
      induction f with
      | zero => intro v b1; omega
      | succ f ih =>
        intro v b1 b2
        have hm := mxI_in (d := fun v => stX st2.2.2 st2.1 v - stX (pth G).2.2 (pth G).1 v) v (fun u hu => by
          have h1 := hbX u (by omega)
          have h2 := hbX2 u (by omega)
          unfold bd1 at h1 h2
          omega)
        refine ⟨fun w => ⟨v0, fun s11' h11 => ?_⟩, fun w => ?_⟩
        · have hv : v = 3 := by have := (nI_leI (a := 3) (by decide) (by omega)).mp w; omega
          subst hv
          have e1 : ∀ q, s11'.1 1 q = m.1 1 q := by
            intro q
            rw [h11]
            show upd (s9.1 1) 0 (m.1 1 0) q = _
            by_cases e : q = 0
            · subst e; exact pk_us
            · rw [pk_un e]; exact q1 q e
          have eo : ∀ k, k ≠ 1 → s11'.1 k = s9.1 k := fun k hk => by rw [h11]; exact if_neg hk
          have hRw : RwG G (s11'.1 1) := RwG_congr hG.1 hG.2.2.1 (fun q _ => e1 q)
          refine n_solvesAll hP hRw.1 hG.1.2.1 hG.1.2.2.2 hRw.2.1 hRw.2.2 (by rw [h11]; exact q5) (fun y d1 d2 d3 d4 => n_held ?_)
          rw [lz_toInt ⟨by omega, by omega⟩]
          have ho : ∀ k, k < 6 → k ≠ 1 → y.1 k = m.1 k := fun k hk hk1 => (d1.1 k hk).trans ((eo k hk1).trans (q2 k hk hk1))
          have o2 : y.2.2 2 = m.2.2 2 := d1.2.1.trans (by rw [h11]; exact q3)
          have o6 : y.2.2 6 = m.2.2 6 := d1.2.2.trans (by rw [h11]; exact q4)
          refine ⟨(lz_i (hdI_inI _)).symm, ⟨L, len, txt_k hT (ho 5 (by decide) (by decide)) o6⟩, ⟨G, PrG_mono hG.1 (by omega), hG.2.1, RwG_congr hG.1 hRw (fun q _ => by rw [d1.1 1 (by decide)]), d3, d4⟩, ⟨cn, k1, o2.trans k2, by rw [ho 2 (by decide) (by decide)]; exact KG_mono k3 (by omega)⟩, ?_, hZ14, d2⟩
          rw [ho 3 (by decide) (by decide), ho 4 (by decide) (by decide)]
          exact SlG_mono k4 (by omega)
        · have hv : v < 3 := by
            rcases Nat.lt_or_ge v 3 with w2 | w2
            · exact w2
            · exact absurd (nI_le w2 (by omega)) w
          have hM9 : HM (s9.1 1) (bh (qP G)) (bT (qP G)) (bV (qP G)) := by
            intro u hu
            have hu6 := (hP.2.2.1 u hu).1
            obtain ⟨w1, w2⟩ := hG.2.2.1.1.2.2.2.1 u hu
            exact ⟨by rw [q1 _ (by omega)]; exact w1, fun i hi => by rw [q1 _ (by omega), q1 _ (by omega)]; exact w2 i hi⟩
          refine n_toldValue hM9 hP.2.2.1 q6 go1.1 hv (by rw [te, gt2]; exact Int.le_refl _) ?_
          have etv := tv_end (P := P') (tn := (pth G).2.1) hP' go1.1 go1.2.1 (by rw [← go2]; exact go1.2.2.1) g2 hv
          have etv' : toldZ (bh (qP G)) (bT (qP G)) (bV (qP G)) st2.1 st2.2.2 v (nI (pth G).2.1) = stX st2.2.2 st2.1 v := etv
          rw [etv']
          refine ⟨vp_in_nI hv (by decide), fun x15 h15 => ?_⟩
          rw [nI_clamp (by omega), q7 v hv] at h15
          have b1' := hbX v hv
          have b2' := hbX2 v hv
          unfold bd1 at b1' b2'
          have t15 : x15.toInt = stX st2.2.2 st2.1 v - stX (pth G).2.2 (pth G).1 v := by
            rw [h15]
            exact l_sub (lz_toInt ⟨by omega, by omega⟩) (lz_toInt ⟨by omega, by omega⟩) ⟨by omega, by omega⟩
          have j122 : ∀ x : Int64, x.toInt = abI (stX st2.2.2 st2.1 v - stX (pth G).2.2 (pth G).1 v) → jp_X10_differs_122 (nI a) (fun v2 m2 => iz (hdI (mxI (fun v => stX st2.2.2 st2.1 v - stX (pth G).2.2 (pth G).1 v) 3)) = v2 ∧ Inv (j + 1) t c s14 s13 ct kp kr sl sr m2) (fun v0 v1 v2 v3 v4 => lp_X10_differs_84 (nI a) (fun v2 m2 => iz (hdI (mxI (fun v => stX st2.2.2 st2.1 v - stX (pth G).2.2 (pth G).1 v) 3)) = v2 ∧ Inv (j + 1) t c s14 s13 ct kp kr sl sr m2) f v0 v1 v2 v3 v4) (nI (pth G).2.1) (m.1 1 0) (lz (mxI (fun v => stX st2.2.2 st2.1 v - stX (pth G).2.2 (pth G).1 v) v)) (nI v) x s9 := by
            intro x hx
            have em : (lz (mxI (fun v => stX st2.2.2 st2.1 v - stX (pth G).2.2 (pth G).1 v) v)).toInt = mxI (fun v => stX st2.2.2 st2.1 v - stX (pth G).2.2 (pth G).1 v) v := lz_toInt ⟨by omega, by omega⟩
            have es : mxI (fun v => stX st2.2.2 st2.1 v - stX (pth G).2.2 (pth G).1 v) (v + 1) = if mxI (fun v => stX st2.2.2 st2.1 v - stX (pth G).2.2 (pth G).1 v) v < abI (stX st2.2.2 st2.1 v - stX (pth G).2.2 (pth G).1 v) then abI (stX st2.2.2 st2.1 v - stX (pth G).2.2 (pth G).1 v) else mxI (fun v => stX st2.2.2 st2.1 v - stX (pth G).2.2 (pth G).1 v) v := rfl
            unfold jp_X10_differs_122
            rw [lgc_le, em, hx]
            refine ⟨fun w2 x18 h18 => ?_, fun w2 x19 h19 => ?_⟩
            · have e18 : x18 = nI (v + 1) := h18.trans (nI_1 v)
              subst e18
              have := ih (v + 1) (by omega) (by omega)
              rw [es, if_neg (by omega)] at this
              exact this
            · have e19 : x19 = nI (v + 1) := h19.trans (nI_1 v)
              subst e19
              have := ih (v + 1) (by omega) (by omega)
              rw [es, if_pos (by omega), ← hx, lz_of] at this
              exact this
          rw [lgc_ge, t15]
          simp only [Int64.toInt_zero]
          refine ⟨fun w2 => j122 x15 ?_, fun w2 => j122 (-x15) ?_⟩
          · rw [t15]; unfold abI; rw [if_neg (by omega)]
          · rw [l_neg t15 ⟨by omega, by omega⟩]; unfold abI; rw [if_pos (by omega)]
    exact ⟨4, key 4 0 rfl (by decide)⟩
  -- the values before
  have befores : ∀ (f v : Nat) (y : RT), f + v = 4 → v ≤ 3 → Same19 m y → (∀ u, u < v → y.2.1 19 u = lz (stX (pth G).2.2 (pth G).1 u)) → lp_X10_differs_30 (nI a) (fun v2 m2 => iz (hdI (mxI (fun v => stX st2.2.2 st2.1 v - stX (pth G).2.2 (pth G).1 v) 3)) = v2 ∧ Inv (j + 1) t c s14 s13 ct kp kr sl sr m2) f (nI (pth G).2.1) (m.1 1 0) (nI v) y := by
    intro f
    induction f with
    | zero => intro v y b1; omega
    | succ f ih =>
      intro v y b1 b2 hs19 hy
      refine ⟨fun w => ⟨v0, fun s6' h6 s7 h7 s8 h8 => ?_⟩, fun w => ?_⟩
      · have := (nI_leI (a := 3) (by decide) (by omega)).mp w
        have e81 : s8.1 1 = upd (m.1 1) 0 (nI a) := by
          rw [h8, h7, h6, ← hs19.1]; rfl
        have e8o : ∀ k, k ≠ 1 → s8.1 k = m.1 k := fun k hk => by
          rw [h8, h7, h6, ← hs19.1]; exact if_neg hk
        have e82 : s8.2.1 = y.2.1 := by rw [h8, h7, h6]; rfl
        have e83 : ∀ k, k ≠ 17 → k ≠ 18 → s8.2.2 k = m.2.2 k := fun k k17 k18 => by
          rw [h8, h7, h6, ← hs19.2.2]
          show (if k = 18 then _ else if k = 17 then _ else y.2.2 k) = _
          rw [if_neg k18, if_neg k17]
        have hR8 : RMp (s8.1 1) P' := by
          rw [e81]
          have un : ∀ q, q ≠ 0 → upd (m.1 1) 0 (nI a) q = m.1 1 q := fun q hq => pk_un hq
          obtain ⟨hR1, hR2, hR3, hR4, hR5⟩ := hG.2.2.1.1
          refine ⟨fun u hu => ?_, fun e he => by rw [un _ (by omega)]; exact hR2 e he, fun e he => by rw [un _ (by omega)]; exact hR3 e he, fun u hu => ?_, by rw [pk_us]; rfl, by rw [un _ (by omega)]; exact hR5.2.1, by rw [un _ (by omega)]; exact hR5.2.2⟩
          · obtain ⟨w1, w2⟩ := hR1 u hu
            exact ⟨by rw [un _ (by omega)]; exact w1, fun i hi => by rw [un _ (by omega)]; exact w2 i hi⟩
          · obtain ⟨w1, w2⟩ := hR4 u hu
            exact ⟨by rw [un _ (by omega)]; exact w1, fun i hi => by rw [un _ (by omega), un _ (by omega)]; exact w2 i hi⟩
        have hB8 : BM s8 (qn G) (qT G) (qO G) (qD G) := BM_2P hG.2.2.2.1 (fun k hk => e8o k (by omega)) (e83 10 (by decide) (by decide))
        have hM8 : PM s8 0 (g00 P') := ⟨by rw [h8, h7]; rfl, by rw [h8]; rfl, fun s hs => absurd hs (Nat.not_lt_zero s)⟩
        refine n_goesTo (st := (0, 0, g00 P')) hP' hbt (show 0 < 512 by decide) hR8 hB8 hM8 ((e83 19 (by decide) (by decide)).trans k6) gok0 (Nat.zero_le _) g2 (fun s9' d0 d1 d2 => ?_)
        rw [hst] at d2
        have qd := SameQ_R d0
        refine last s9' (Or.inr trivial) (fun q hq => ?_) ?_ (fun k hk hk1 => ?_) ?_ ?_ d1 d2 (fun v hv => ?_)
        · rw [qd.1 1 (by decide), e81, pk_un hq]
        · rw [qd.1 1 (by decide), e81, pk_us]
        · rw [qd.1 k hk]; exact e8o k hk1
        · exact qd.2.1.trans (e83 2 (by decide) (by decide))
        · exact qd.2.2.trans (e83 6 (by decide) (by decide))
        · rw [d0.2.1, e82]; exact hy v (by omega)
      · have hv : v < 3 := by
          rcases Nat.lt_or_ge v 3 with w2 | w2
          · exact w2
          · exact absurd (nI_le w2 (by omega)) w
        refine n_toldValue (by rw [hs19.1]; exact hG.2.2.1.1.2.2.2.1) hP.2.2.1 (PM_19 hG.2.2.2.2 hs19) gok.1 hv (by rw [te, gt]; exact Int.le_refl _) ?_
        have etv := tv_end hP gok.1 gok.2.1 g1 g2 hv
        unfold tvZ at etv
        rw [etv]
        refine ⟨vp_in_nI hv (by decide), fun s21 h21 x22 h22 => ?_⟩
        have e22 : x22 = nI (v + 1) := h22.trans (nI_1 v)
        subst e22
        rw [nI_clamp (by omega)] at h21
        refine ih (v + 1) s21 (by omega) (by omega) ⟨by rw [h21]; exact hs19.1, fun k hk => ?_, by rw [h21]; exact hs19.2.2⟩ (fun u hu => ?_)
        · rw [h21]
          show (if k = 19 then _ else y.2.1 k) = _
          rw [if_neg hk]; exact hs19.2.1 k hk
        · rw [h21]
          show vp_updL (y.2.1 19) v _ u = _
          by_cases e : u = v
          · subst e; exact pk_uLs
          · rw [pk_uLn e]; exact hy u (by omega)
  exact befores 4 0 m rfl (by decide) ⟨rfl, fun _ _ => rfl, rfl⟩ (fun u hu => by omega)
