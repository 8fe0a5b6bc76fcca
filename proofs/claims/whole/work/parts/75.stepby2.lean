/-! the reference's whole step -/
theorem PM_mk {m : RT} {n : Nat} {g : Nat → Int32} (h1 : m.2.2 17 = nI n) (h2 : m.2.2 18 = g (n * 8)) (h3 : PM3 m n g) : PM m n g := ⟨h1, h2, h3⟩
theorem n_stepBy {m : RT} {P : PB} {n tn h : Nat} {g : Nat → Int32} {K : RT → Prop} (hP : POKp P) (hR : RMp (m.1 1) P) (hM : PM m n g) (hG : POK n g) (h0 : Row0 P g) (hn : n < 960) (ht : g (n * 8) = nI tn) (h1 : 1 ≤ h) (h5 : h ≤ 500) (h8 : tn + h ≤ 8000) (hg : m.2.2 19 = 0)
    (hK : ∀ m', SameR m m' → m'.2.2 17 = nI (n + 1) → m'.2.2 18 = nI tn → m'.2.2 19 = 0 → PM3 m' (n + 1) (stepG P n tn g h) → K m') : wp_X10_stepBy m (nI h) K := by
  have et : (nI tn).toInt = (tn : Int) := nI_int (by omega)
  have eh : (nI h).toInt = (h : Int) := nI_int (by omega)
  have hgt : (g (n * 8)).toInt = (tn : Int) := by rw [ht]; exact et
  have hb0 := env0_bd (P := P) (n := n) (g := g) hP (show tn ≤ 8000 by omega)
  have hbX := fun v (hv : v < 3) => stX_bd hG hv
  have hbK := fun v (hv : v < 3) => stK_bd (n := n) (g := g) hP hv (show tn ≤ 8000 by omega)
  have hr4 := rdS_le hP (t := nI tn + nI h) (h := h)
  have hM18 : m.2.2 18 = nI tn := hM.2.1.trans ht
  -- the rows
  have rows : ∀ (y : RT), GS m P n tn g h (stI P n tn g h (rdS P (nI tn + nI h) h + 1)) 0 y → ∀ s12 : RT, s12 = rI (rI (rI y 9 (upd (y.1 9) n (nI tn))) 10 (upd (y.1 10) n (nI h))) 11 (upd (y.1 11) n (nI (rdS P (nI tn + nI h) h))) → ∃ q : Nat, lp_X10_stepBy_174 (nI h) K q 0 s12 := by
    intro y hy s12 h12
    obtain ⟨c0, c1, c2, c3, c4, c5, c6⟩ := hy
    have y17 : y.2.2 17 = nI n := (c0.2.2 17 (by decide) (by decide) (by decide) (by decide) (by decide)).trans hM.1
    have key : ∀ (f v : Nat) (z : RT), f + v = 4 → v ≤ 3 → (∀ j, j ≠ 12 → j ≠ 13 → j ≠ 14 → z.2.1 j = y.2.1 j) → z.1 = s12.1 → z.2.2 = y.2.2 → (∀ j, (j < 3 * n ∨ 3 * n + 3 ≤ j) → z.2.1 12 j = y.2.1 12 j ∧ z.2.1 13 j = y.2.1 13 j ∧ z.2.1 14 j = y.2.1 14 j) → (∀ u, u < v → z.2.1 12 (3 * n + u) = lz (stX g n u) ∧ z.2.1 13 (3 * n + u) = lz (stK P n tn g u) ∧ z.2.1 14 (3 * n + u) = lz (stI P n tn g h (rdS P (nI tn + nI h) h + 1) u)) → lp_X10_stepBy_174 (nI h) K f (nI v) z := by
      intro f
      induction f with
      | zero => intro v z a b; omega
      | succ f ih =>
        intro v z a b d1 d2 d3 d4 d5
        have z17 : z.2.2 17 = nI n := by rw [d3]; exact y17
        refine ⟨fun q s14 h14 => ?_, fun q => ?_⟩
        · have hv3 : v = 3 := by have := (nI_leI (a := 3) (by decide) (by omega)).mp q; omega
          subst hv3
          have f9 : s14.1 9 = upd (y.1 9) n (nI tn) := by rw [h14]; show z.1 9 = _; rw [d2, h12]; rfl
          have f10 : s14.1 10 = upd (y.1 10) n (nI h) := by rw [h14]; show z.1 10 = _; rw [d2, h12]; rfl
          have f11 : s14.1 11 = upd (y.1 11) n (nI (rdS P (nI tn + nI h) h)) := by rw [h14]; show z.1 11 = _; rw [d2, h12]; rfl
          have fL : s14.2.1 = z.2.1 := by rw [h14]; rfl
          refine hK s14 ⟨fun j j1 j2 j3 j4 => ?_, ?_, fun k k1 k2 k3 k4 k5 k6 k7 => ?_⟩ ?_ ?_ ?_ (fun s hs => ?_)
          · rw [h14]
            show z.1 j = _
            rw [d2, h12]
            show (if j = 11 then _ else if j = 10 then _ else if j = 9 then _ else y.1 j) = _
            rw [if_neg j3, if_neg j2, if_neg j1]
            exact c0.1 j j4
          · rw [fL, d1 19 (by decide) (by decide) (by decide)]
            exact c0.2.1 19 (by decide) (by decide) (by decide) (by decide) (by decide)
          · rw [h14]
            show (if k = 17 then _ else z.2.2 k) = _
            rw [if_neg k1, d3]
            exact c0.2.2 k k3 k4 k5 k6 k7
          · rw [h14]
            show z.2.2 17 + 1 = _
            rw [z17, nI_1]
          · rw [h14]
            show z.2.2 18 = _
            rw [d3, c0.2.2 18 (by decide) (by decide) (by decide) (by decide) (by decide), hM18]
          · rw [h14]
            show z.2.2 19 = _
            rw [d3, c1]
          · rw [f9, f10, f11, fL]
            by_cases e : s = n
            · subst e
              rw [pk_us, pk_us, pk_us, stepG_old (j := s * 8) (by omega), stepG_t, stepG_r, ht]
              refine ⟨rfl, ?_, rfl, fun v hv => ?_⟩
              · rw [pk_sub (by omega)]; congr 1; omega
              · obtain ⟨e1, e2, e3⟩ := d5 v hv
                rw [e1, e2, e3, stepG_old (by omega), stepG_k hv, stepG_y hv, i2l_lz, i2l_lz, i2l_lz, iz_r2 (hbK v hv), iz_r stI_bd]
                exact ⟨rfl, rfl, rfl⟩
            · rw [pk_un e, pk_un e, pk_un e, c0.1 9 (by decide), c0.1 10 (by decide), c0.1 11 (by decide), stepG_old (j := s * 8) (by omega), stepG_old (j := (s + 1) * 8) (by omega), stepG_old (j := s * 8 + 7) (by omega)]
              obtain ⟨e1, e2, e3, e4⟩ := hM.2.2 s (by omega)
              refine ⟨e1, e2, e3, fun v hv => ?_⟩
              obtain ⟨q1, q2, q3⟩ := d4 (3 * s + v) (by omega)
              rw [q1, q2, q3, c0.2.1 12 (by decide) (by decide) (by decide) (by decide) (by decide), c0.2.1 13 (by decide) (by decide) (by decide) (by decide) (by decide), c0.2.1 14 (by decide) (by decide) (by decide) (by decide) (by decide), stepG_old (by omega), stepG_old (by omega), stepG_old (by omega)]
              exact e4 v hv
        · have hv : v < 3 := by
            rcases Nat.lt_or_ge v 3 with w | w
            · exact w
            · exact absurd (nI_le w (by omega)) q
          have vi := vp_in_nI (n := v) (N := 3) hv (by decide)
          rw [z17, ix3, nI_clamp (by omega), nI_clamp (by omega)]
          have vj := vp_in_nI (n := 3 * n + v) (N := 3300) (by omega) (by decide)
          refine ⟨vi, vj, fun s15 h15 => ?_⟩
          have e15 : s15.2.2 17 = nI n := by rw [h15]; exact z17
          rw [e15, ix3, nI_clamp (by omega)]
          refine ⟨vi, vj, fun s16 h16 => ?_⟩
          have e16 : s16.2.2 17 = nI n := by rw [h16]; exact e15
          rw [e16, ix3, nI_clamp (by omega)]
          refine ⟨vi, vj, fun s17 h17 x18 h18 => ?_⟩
          have e18 : x18 = nI (v + 1) := h18.trans (nI_1 v)
          subst e18
          have g12 : s17.2.1 12 = vp_updL (z.2.1 12) (3 * n + v) (lz (stX g n v)) := by
            rw [h17]; show s16.2.1 12 = _; rw [h16]; show s15.2.1 12 = _; rw [h15]
            show vp_updL (z.2.1 12) _ (z.2.1 15 v) = _
            rw [d1 15 (by decide) (by decide) (by decide), c4 v hv]
          have g13 : s17.2.1 13 = vp_updL (z.2.1 13) (3 * n + v) (lz (stK P n tn g v)) := by
            rw [h17]; show s16.2.1 13 = _; rw [h16]
            show vp_updL (s15.2.1 13) _ (s15.2.1 17 v) = _
            rw [h15]
            show vp_updL (z.2.1 13) _ (z.2.1 17 v) = _
            rw [d1 17 (by decide) (by decide) (by decide), c5 v hv]
          have g14 : s17.2.1 14 = vp_updL (z.2.1 14) (3 * n + v) (lz (stI P n tn g h (rdS P (nI tn + nI h) h + 1) v)) := by
            rw [h17]
            show vp_updL (s16.2.1 14) _ (s16.2.1 16 v) = _
            rw [h16, h15]
            show vp_updL (z.2.1 14) _ (z.2.1 16 v) = _
            rw [d1 16 (by decide) (by decide) (by decide), c6 v hv]
          refine ih (v + 1) s17 (by omega) (by omega) (fun j j1 j2 j3 => ?_) ?_ ?_ (fun j hj => ?_) (fun u hu => ?_)
          · rw [h17, h16, h15]
            show (if j = 14 then _ else if j = 13 then _ else if j = 12 then _ else z.2.1 j) = _
            rw [if_neg j3, if_neg j2, if_neg j1]
            exact d1 j j1 j2 j3
          · rw [h17, h16, h15]; exact d2
          · rw [h17, h16, h15]; exact d3
          · rw [g12, g13, g14, pk_uLn (by omega), pk_uLn (by omega), pk_uLn (by omega)]
            exact d4 j hj
          · rw [g12, g13, g14]
            by_cases e : u = v
            · subst e; exact ⟨pk_uLs, pk_uLs, pk_uLs⟩
            · rw [pk_uLn (by omega), pk_uLn (by omega), pk_uLn (by omega)]
              exact d5 u (by omega)
    refine ⟨4, key 4 0 s12 rfl (by decide) (fun j _ _ _ => by rw [h12]; rfl) rfl (by rw [h12]; rfl) (fun j _ => by rw [h12]; exact ⟨rfl, rfl, rfl⟩) (fun u hu => by omega)⟩
  -- the rounds
  have rounds : ∀ (f i : Nat) (y : RT), i + f = rdS P (nI tn + nI h) h + 1 → i ≤ rdS P (nI tn + nI h) h → GS m P n tn g h (stI P n tn g h (i + 1)) 0 y → lp_X10_stepBy_123 (nI h) K f (nI tn) (nI (rdS P (nI tn + nI h) h)) (nI i) y := by
    intro f
    induction f with
    | zero => intro i y a b; omega
    | succ f ih =>
      intro i y a b hy
      refine ⟨fun q => ?_, fun q => ?_⟩
      · have hi : i = rdS P (nI tn + nI h) h := by have := (nI_leI (by omega) (by omega)).mp q; omega
        have y17 : y.2.2 17 = nI n := (hy.1.2.2 17 (by decide) (by decide) (by decide) (by decide) (by decide)).trans hM.1
        have vn := vp_in_nI (n := n) (N := 1100) (by omega) (by decide)
        rw [y17, nI_clamp (by omega)]
        refine ⟨vn, fun s10 h10 => ?_⟩
        have e10 : s10.2.2 17 = nI n := by rw [h10]; exact y17
        rw [e10, nI_clamp (by omega)]
        refine ⟨vn, fun s11 h11 => ?_⟩
        have e11 : s11.2.2 17 = nI n := by rw [h11]; exact e10
        rw [e11, nI_clamp (by omega)]
        refine ⟨vn, fun s12 h12 => ?_⟩
        refine rows y (by rw [← hi]; exact hy) s12 ?_
        rw [h12, h11, h10]
        rfl
      · have hi : i < rdS P (nI tn + nI h) h := by
          rcases Nat.lt_or_ge i (rdS P (nI tn + nI h) h) with w | w
          · exact w
          · exact absurd (nI_le w (by omega)) q
        refine n_guesses hP hR hM hG ht h1 h5 h8 (fun v _ => stI_bd) hy (fun y2 hy2 x20 h20 => ?_)
        have e20 : x20 = nI (i + 1) := h20.trans (nI_1 i)
        subst e20
        exact ih (i + 1) y2 (by omega) (by omega) hy2
  -- the first guess
  have firsts : ∀ (f v : Nat) (y : RT), f + v = 4 → v ≤ 3 → SameS m y → y.2.2 19 = 0 → y.2.2 20 = nI tn → y.2.2 21 = nI h → (∀ u, u < 3 → y.2.1 15 u = lz (stX g n u)) → (∀ u, u < 3 → y.2.1 17 u = lz (stK P n tn g u)) → (∀ u, u < v → y.2.1 16 u = lz (stG0 P n tn g h u)) → lp_X10_stepBy_54 (nI h) K f (nI tn) (nI v) y := by
    intro f
    induction f with
    | zero => intro v y a b; omega
    | succ f ih =>
      intro v y a b c0 c1 c2 c3 c4 c5 c6
      refine ⟨fun q => ?_, fun q => ?_⟩
      · have := (nI_leI (a := 3) (by decide) (by omega)).mp q
        refine n_guesses (G := stI P n tn g h 0) hP hR hM hG ht h1 h5 h8 (fun v _ => stI_bd) ⟨c0, c1, c2, c3, c4, c5, fun u hu => c6 u (by omega)⟩ (fun y2 hy2 => ?_)
        have e1 : y2.1 1 = m.1 1 := hy2.1.1 1 (by decide)
        have go : ∀ r : Nat, r = rdS P (nI tn + nI h) h → ∃ q : Nat, lp_X10_stepBy_123 (nI h) K q (nI tn) (nI r) 0 y2 := by
          intro r hr
          refine ⟨rdS P (nI tn + nI h) h + 1, ?_⟩
          rw [hr]
          exact rounds _ 0 y2 (by omega) (by omega) hy2
        refine n_needsRounds hP (by rw [e1]; exact hR) h8 h5 (fun q => ⟨fun w => absurd w (by decide), fun _ => ⟨(vp_in_nI (show 1 < 812 by decide) (by decide) : vp_in (nI 1) 812), fun x21 h21 => ?_⟩⟩) (fun q => ⟨fun _ => go 0 (by unfold rdS; rw [if_neg q]), fun w => absurd rfl w⟩)
        have e21 : x21 = nI (bR P) := by
          rw [h21, e1]
          exact hR.2.2.2.2.2.1
        subst e21
        exact go _ (by unfold rdS; rw [if_pos q])
      · have hv : v < 3 := by
          rcases Nat.lt_or_ge v 3 with w | w
          · exact w
          · exact absurd (nI_le w (by omega)) q
        have vi := vp_in_nI (n := v) (N := 3) hv (by decide)
        have bX := hbX v hv
        have bK := hbK v hv
        rw [nI_clamp (by omega), c4 v hv, c5 v hv]
        refine ⟨vi, vi, n_held ?_⟩
        unfold bd1 at bX
        unfold bd2 at bK
        rw [guess_mul0 (h := h) (lz_toInt ⟨by omega, by omega⟩) (lz_toInt ⟨by omega, by omega⟩) bX bK h5]
        refine ⟨vi, fun s23 h23 x24 h24 => ?_⟩
        have e24 : x24 = nI (v + 1) := h24.trans (nI_1 v)
        subst h23; subst e24
        refine ih (v + 1) _ (by omega) (by omega) (SameS_t c0 (SameS_L _ _ (by decide))) c1 c2 c3 c4 c5 (fun u hu => ?_)
        show vp_updL (y.2.1 16) v _ u = _
        by_cases e : u = v
        · subst e; rw [pk_uLs]; rfl
        · rw [pk_uLn e]; exact c6 u (by omega)
  -- the beginning
  have begins : ∀ (f v : Nat) (y : RT), f + v = 4 → v ≤ 3 → SameS m y → y.2.2 19 = 0 → y.2.2 20 = nI tn → y.2.2 21 = nI h → (∀ u, u < v → y.2.1 15 u = lz (stX g n u) ∧ y.2.1 17 u = lz (stK P n tn g u)) → lp_X10_stepBy_17 (nI h) K f (nI tn) (nI v) y := by
    intro f
    induction f with
    | zero => intro v y a b; omega
    | succ f ih =>
      intro v y a b c0 c1 c2 c3 c4
      refine ⟨fun q => ⟨4, ?_⟩, fun q => ?_⟩
      · have := (nI_leI (a := 3) (by decide) (by omega)).mp q
        exact firsts 4 0 y rfl (by decide) c0 c1 c2 c3 (fun u hu => (c4 u (by omega)).1) (fun u hu => (c4 u (by omega)).2) (fun u hu => by omega)
      · have hv : v < 3 := by
          rcases Nat.lt_or_ge v 3 with w | w
          · exact w
          · exact absurd (nI_le w (by omega)) q
        have vi := vp_in_nI (n := v) (N := 3) hv (by decide)
        have e1 : y.1 1 = m.1 1 := c0.1 1 (by decide)
        have tx := hP.1 v hv
        refine n_toldValue (by rw [e1]; exact hR.2.2.2.1) hP.2.2.1 (PM_S hM c0) hG hv (by omega) ?_
        have etv := tv_end hP hG h0 ht (by omega) hv
        unfold tvZ at etv
        rw [etv]
        refine ⟨vi, fun s26 h26 => ?_⟩
        rw [nI_clamp (by omega)] at h26
        have q0 : SameS m s26 := by rw [h26]; exact SameS_t c0 (SameS_L _ _ (by decide))
        have q1 : s26.1 1 = m.1 1 := q0.1 1 (by decide)
        have q19 : s26.2.2 19 = 0 := by rw [h26]; exact c1
        refine n_worksOut tx.1 (by rw [q1]; exact hR.1 v hv) hv hb0 (EnvM_told hP (by rw [q1]; exact hR) (PM_S hM q0) hG q19 (by omega) (by omega)) tx.2.1 tx.2.2 (fun s28 h28 => ⟨vi, fun s29 h29 x30 h30 => ?_⟩)
        have e30 : x30 = nI (v + 1) := h30.trans (nI_1 v)
        subst e30
        rw [nI_clamp (by omega)] at h29
        have r0 : SameS m s28 := SameS_t q0 (SameS_V h28)
        refine ih (v + 1) s29 (by omega) (by omega) (by rw [h29]; exact SameS_t r0 (SameS_L _ _ (by decide))) ?_ ?_ ?_ (fun u hu => ?_)
        · rw [h29]
          show s28.2.2 19 = 0
          rw [h28.2.2 19 (by decide) (by decide)]; exact q19
        · rw [h29]
          show s28.2.2 20 = _
          rw [h28.2.2 20 (by decide) (by decide), h26]; exact c2
        · rw [h29]
          show s28.2.2 21 = _
          rw [h28.2.2 21 (by decide) (by decide), h26]; exact c3
        · have a15 : s29.2.1 15 = vp_updL (y.2.1 15) v (lz (stX g n v)) := by
            rw [h29]
            show s28.2.1 15 = _
            rw [h28.2.1 15 (by decide), h26]
            rfl
          have a17 : s29.2.1 17 = vp_updL (y.2.1 17) v (lz (stK P n tn g v)) := by
            rw [h29]
            show vp_updL (s28.2.1 17) v _ = _
            rw [h28.2.1 17 (by decide), h26]
            rfl
          rw [a15, a17]
          by_cases e : u = v
          · subst e; exact ⟨pk_uLs, pk_uLs⟩
          · rw [pk_uLn e, pk_uLn e]; exact c4 u (by omega)
  intro x1 hx1 s2 h2 s3 h3
  rw [hM18] at hx1
  subst hx1
  refine ⟨4, begins 4 0 s3 rfl (by decide) ?_ ?_ ?_ ?_ (fun u hu => by omega)⟩
  · rw [h3, h2]; exact SameS_t (SameS_S _ _ (by decide)) (SameS_S _ _ (by decide))
  · rw [h3, h2]; exact hg
  · rw [h3, h2]; rfl
  · rw [h3]; rfl
