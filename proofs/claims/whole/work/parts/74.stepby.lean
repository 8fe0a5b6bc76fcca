/-! the reference's step -/
def SameS (m y : RT) : Prop := (∀ j, j ≠ 21 → y.1 j = m.1 j) ∧ (∀ j, j ≠ 15 → j ≠ 16 → j ≠ 17 → j ≠ 18 → j ≠ 20 → y.2.1 j = m.2.1 j) ∧ ∀ k, k ≠ 19 → k ≠ 20 → k ≠ 21 → k ≠ 29 → k ≠ 30 → y.2.2 k = m.2.2 k
theorem SameS_r (m : RT) : SameS m m := ⟨fun _ _ => rfl, fun _ _ _ _ _ _ => rfl, fun _ _ _ _ _ _ => rfl⟩
theorem SameS_t {a b c : RT} (h : SameS a b) (k : SameS b c) : SameS a c := ⟨fun j h1 => (k.1 j h1).trans (h.1 j h1), fun j h1 h2 h3 h4 h5 => (k.2.1 j h1 h2 h3 h4 h5).trans (h.2.1 j h1 h2 h3 h4 h5), fun j h1 h2 h3 h4 h5 => (k.2.2 j h1 h2 h3 h4 h5).trans (h.2.2 j h1 h2 h3 h4 h5)⟩
theorem SameS_V {a b : RT} (h : SameV a b) : SameS a b := ⟨fun j h1 => h.1 j h1, fun j _ _ _ _ h5 => h.2.1 j h5, fun k _ _ _ h4 h5 => h.2.2 k h4 h5⟩
theorem SameS_L (a : RT) {k : Nat} (f : Nat → Int64) (hk : k = 15 ∨ k = 16 ∨ k = 17 ∨ k = 18) : SameS a (rL a k f) := ⟨fun _ _ => rfl, fun j h1 h2 h3 h4 _ => if_neg (by omega), fun _ _ _ _ _ _ => rfl⟩
theorem SameS_S (a : RT) {k : Nat} (x : Int32) (hk : k = 19 ∨ k = 20 ∨ k = 21) : SameS a (rS a k x) := ⟨fun _ _ => rfl, fun _ _ _ _ _ _ => rfl, fun j h1 h2 h3 _ _ => if_neg (by omega)⟩
theorem PM_S {m y : RT} {n : Nat} {g : Nat → Int32} (h : PM m n g) (hy : SameS m y) : PM y n g := by
  obtain ⟨h1, h2, h3⟩ := h
  refine ⟨by rw [hy.2.2 17 (by decide) (by decide) (by decide) (by decide) (by decide)]; exact h1, by rw [hy.2.2 18 (by decide) (by decide) (by decide) (by decide) (by decide)]; exact h2, fun s hs => ?_⟩
  rw [hy.1 9 (by decide), hy.1 10 (by decide), hy.1 11 (by decide), hy.2.1 12 (by decide) (by decide) (by decide) (by decide) (by decide), hy.2.1 13 (by decide) (by decide) (by decide) (by decide) (by decide), hy.2.1 14 (by decide) (by decide) (by decide) (by decide) (by decide)]
  exact h3 s hs
def PM3 (m : RT) (n : Nat) (g : Nat → Int32) : Prop := ∀ s, s < n → m.1 9 s = g (s * 8) ∧ m.1 10 s = g ((s + 1) * 8) - g (s * 8) ∧ m.1 11 s = g (s * 8 + 7) ∧ ∀ v, v < 3 → m.2.1 12 (3 * s + v) = (g (s * 8 + 1 + v)).toInt64 ∧ m.2.1 13 (3 * s + v) = (g (s * 8 + 4 + v)).toInt64 ∧ m.2.1 14 (3 * s + v) = (g ((s + 1) * 8 + 1 + v)).toInt64
def SameR (m y : RT) : Prop := (∀ j, j ≠ 9 → j ≠ 10 → j ≠ 11 → j ≠ 21 → y.1 j = m.1 j) ∧ y.2.1 19 = m.2.1 19 ∧ ∀ k, k ≠ 17 → k ≠ 18 → k ≠ 19 → k ≠ 20 → k ≠ 21 → k ≠ 29 → k ≠ 30 → y.2.2 k = m.2.2 k
theorem SameR_r (m : RT) : SameR m m := ⟨fun _ _ _ _ _ => rfl, rfl, fun _ _ _ _ _ _ _ _ => rfl⟩
theorem SameR_t {a b c : RT} (h : SameR a b) (k : SameR b c) : SameR a c := ⟨fun j h1 h2 h3 h4 => (k.1 j h1 h2 h3 h4).trans (h.1 j h1 h2 h3 h4), k.2.1.trans h.2.1, fun j h1 h2 h3 h4 h5 h6 h7 => (k.2.2 j h1 h2 h3 h4 h5 h6 h7).trans (h.2.2 j h1 h2 h3 h4 h5 h6 h7)⟩
theorem SameR_S {a b : RT} (h : SameS a b) : SameR a b := ⟨fun j _ _ _ h4 => h.1 j h4, h.2.1 19 (by decide) (by decide) (by decide) (by decide) (by decide), fun k _ _ h3 h4 h5 h6 h7 => h.2.2 k h3 h4 h5 h6 h7⟩
theorem n_needsRounds {m : RT} {P : PB} {t h : Nat} {K : Int32 → Prop} (hP : POKp P) (hR : RMp (m.1 1) P) (h8 : t + h ≤ 8000) (hh : h ≤ 500) (h1 : shortS P (nI t + nI h) h → K 1) (h2 : ¬ shortS P (nI t + nI h) h → K 0) : wp_X10_needsRounds m (nI t) (nI h) K := by
  have eh : (nI h).toInt = (h : Int) := nI_int (by omega)
  have et : (nI t + nI h).toInt = ((t + h : Nat) : Int) := by rw [nI_add]; exact nI_int (by omega)
  have key : ∀ (f d : Nat) (b : Bool), f + d = 4 → d ≤ 3 → (b = true ↔ ∃ e, e < d ∧ usP P e ∧ (lgI P e (nI t + nI h)).toInt ≠ 0 ∧ (lgI P e (nI t + nI h)).toInt < h) → lp_X10_needsRounds_5 m (nI t) (nI h) K f (b2 b) (nI d) := by
    intro f
    induction f with
    | zero => intro d b p q; omega
    | succ f ih =>
      intro d b p q r
      refine ⟨fun z => ⟨b2_nar b, ?_⟩, fun z => ?_⟩
      · have := (nI_leI (a := 3) (by decide) (by omega)).mp z
        cases b with
        | true =>
          obtain ⟨e, e1, e2⟩ := r.mp rfl
          exact h1 ⟨e, by omega, e2⟩
        | false =>
          exact h2 (fun ⟨e, e1, e2⟩ => absurd (r.mpr ⟨e, by omega, e2⟩) (by decide))
      · have hd : d < 3 := by
          rcases Nat.lt_or_ge d 3 with w | w
          · exact w
          · exact absurd (nI_le w (by omega)) z
        have nd : nI d + 1 = nI (d + 1) := nI_1 d
        have yes : (b = true ∨ (usP P d ∧ (lgI P d (nI t + nI h)).toInt ≠ 0 ∧ (lgI P d (nI t + nI h)).toInt < h)) → jp_X10_needsRounds_65 m (nI t) (nI h) K (fun v0 v1 => lp_X10_needsRounds_5 m (nI t) (nI h) K f v0 v1) (nI d) := by
          intro hy x5 h5
          rw [nd] at h5
          subst h5
          refine ih (d + 1) true (by omega) (by omega) ⟨fun _ => ?_, fun _ => rfl⟩
          rcases hy with w | w
          · obtain ⟨e, e1, e2⟩ := r.mp w
            exact ⟨e, by omega, e2⟩
          · exact ⟨d, by omega, w⟩
        have no : b = false → ¬ (usP P d ∧ (lgI P d (nI t + nI h)).toInt ≠ 0 ∧ (lgI P d (nI t + nI h)).toInt < h) → jp_X10_needsRounds_69 m (nI t) (nI h) K (fun v0 v1 => lp_X10_needsRounds_5 m (nI t) (nI h) K f v0 v1) (nI d) := by
          intro hb hn x5 h5
          rw [nd] at h5
          subst h5
          refine ih (d + 1) false (by omega) (by omega) ⟨fun w => absurd w (by decide), fun ⟨e, e1, e2⟩ => ?_⟩
          by_cases q2 : e = d
          · subst q2; exact absurd e2 hn
          · have := r.mpr ⟨e, by omega, e2⟩
            rw [hb] at this
            exact this
        have lag : ∀ K' : Int32 → Prop, K' (lgI P d (nI t + nI h)) → wp_X10_lagAt m (nI d) (nI t + nI h) K' := fun K' k => n_lagM hP.2.1 hR.2.1 hR.2.2.1 hd (by omega) (by omega) k
        have z0 : lgI P d (nI t + nI h) = 0 ↔ (lgI P d (nI t + nI h)).toInt = 0 := by rw [i_eq]; simp only [Int32.toInt_zero]
        have fin : ∀ t0 : Int32, (usP P d ∧ t0 = 1) ∨ (¬ usP P d ∧ t0 = 0) → jp_X10_needsRounds_29 m (nI t) (nI h) K (fun v0 v1 => lp_X10_needsRounds_5 m (nI t) (nI h) K f v0 v1) (b2 b) (nI d) t0 := by
          intro t0 ht0
          refine ⟨fun w => yes (Or.inl (b2_1.mp w)), fun w => ?_⟩
          have hb := b2_0.mp w
          rcases ht0 with ⟨u, e⟩ | ⟨u, e⟩
          · subst e
            refine ⟨fun y => absurd y (by decide), fun _ => lag _ ⟨fun y => no hb (fun y2 => ?_), fun y => lag _ ⟨fun y2 => no hb (fun y3 => y3.2.1 (z0.mp y2)), fun y2 => yes (Or.inr ⟨u, fun y3 => y2 (z0.mpr y3), ?_⟩)⟩⟩⟩
            · rw [i_le, eh] at y; omega
            · rw [i_le, eh] at y; omega
          · subst e
            exact ⟨fun _ => no hb (fun y => u y.1), fun y => absurd rfl y⟩
        refine n_usedM hP hR.1 (fun w hw hu => ?_)
        rw [bit_w w hw d hd]
        have hud := hu d hd
        unfold Ub at hud
        refine ⟨fun y => fin 0 (Or.inr ⟨fun u => y ?_, rfl⟩), fun y => fin 1 (Or.inl ⟨hud.mp ?_, rfl⟩)⟩
        · rw [hud.mpr u]; rfl
        · exact (nI_eq (b := 1) (by omega) (by decide)).mp y
  exact ⟨4, key 4 0 false rfl (by decide) ⟨fun z => absurd z (by decide), fun ⟨e, e1, _⟩ => by omega⟩⟩
section
variable {m : RT} {P : PB} {n tn h : Nat} {g : Nat → Int32}
def GS (m : RT) (P : PB) (n tn : Nat) (g : Nat → Int32) (h : Nat) (G : Nat → Int) (w : Int32) (y : RT) : Prop := SameS m y ∧ y.2.2 19 = w ∧ y.2.2 20 = nI tn ∧ y.2.2 21 = nI h ∧ (∀ v, v < 3 → y.2.1 15 v = lz (stX g n v)) ∧ (∀ v, v < 3 → y.2.1 17 v = lz (stK P n tn g v)) ∧ ∀ v, v < 3 → y.2.1 16 v = lz (G v)
theorem GS_V {G : Nat → Int} {w : Int32} {y y' : RT} (h1 : GS m P n tn g h G w y) (hy : SameV y y') : GS m P n tn g h G w y' := by
  obtain ⟨a, b, c, d, e, f, i⟩ := h1
  refine ⟨SameS_t a (SameS_V hy), ?_, ?_, ?_, fun v hv => ?_, fun v hv => ?_, fun v hv => ?_⟩
  · rw [hy.2.2 19 (by decide) (by decide)]; exact b
  · rw [hy.2.2 20 (by decide) (by decide)]; exact c
  · rw [hy.2.2 21 (by decide) (by decide)]; exact d
  · rw [hy.2.1 15 (by decide)]; exact e v hv
  · rw [hy.2.1 17 (by decide)]; exact f v hv
  · rw [hy.2.1 16 (by decide)]; exact i v hv
theorem n_guesses {G : Nat → Int} {y : RT} {K : RT → Prop} (hP : POKp P) (hR : RMp (m.1 1) P) (hM : PM m n g) (hG : POK n g) (ht : g (n * 8) = nI tn) (h1 : 1 ≤ h) (h5 : h ≤ 500) (h8 : tn + h ≤ 8000) (hGb : ∀ v, v < 3 → bd1 (G v)) (hy : GS m P n tn g h G 0 y) (hK : ∀ y', GS m P n tn g h (stNx P n tn g h G) 0 y' → K y') : wp_X10_guesses y (nI tn) (nI h) K := by
  have et : (nI tn).toInt = (tn : Int) := nI_int (by omega)
  have eh : (nI h).toInt = (h : Int) := nI_int (by omega)
  have hgt : (g (n * 8)).toInt = (tn : Int) := by rw [ht]; exact et
  have hb1 := env1_bd (P := P) (n := n) (g := g) (G := G) hP h8
  have hbX := fun v (hv : v < 3) => stX_bd hG hv
  have hbK := fun v (hv : v < 3) => stK_bd (n := n) (g := g) hP hv (show tn ≤ 8000 by omega)
  have seconds : ∀ (f v : Nat) (z : RT), f + v = 4 → v ≤ 3 → GS m P n tn g h G 1 z → (∀ u, u < v → z.2.1 18 u = lz (valC (env1 P n tn g h G) (cd P u))) → lp_X10_guesses_7 (nI tn) (nI h) K f (nI v) z := by
    intro f
    induction f with
    | zero => intro v z a b; omega
    | succ f ih =>
      intro v z a b hz z18
      refine ⟨fun q s3 h3 => ⟨4, ?_⟩, fun q => ?_⟩
      · have := (nI_leI (a := 3) (by decide) (by omega)).mp q
        have last : ∀ (f2 v : Nat) (z : RT), f2 + v = 4 → v ≤ 3 → SameS m z → z.2.2 19 = 0 → z.2.2 20 = nI tn → z.2.2 21 = nI h → (∀ v, v < 3 → z.2.1 15 v = lz (stX g n v)) → (∀ v, v < 3 → z.2.1 17 v = lz (stK P n tn g v)) → (∀ u, u < 3 → z.2.1 18 u = lz (valC (env1 P n tn g h G) (cd P u))) → (∀ u, u < v → z.2.1 16 u = lz (stNx P n tn g h G u)) → lp_X10_guesses_39 (nI tn) (nI h) K f2 (nI v) z := by
          intro f2
          induction f2 with
          | zero => intro v z a b; omega
          | succ f2 ih2 =>
            intro v z a b c0 c1 c2 c3 c4 c5 c6 c7
            refine ⟨fun q => ?_, fun q => ?_⟩
            · have := (nI_leI (a := 3) (by decide) (by omega)).mp q
              exact hK z ⟨c0, c1, c2, c3, c4, c5, fun u hu => c7 u (by omega)⟩
            · have hv : v < 3 := by
                rcases Nat.lt_or_ge v 3 with w | w
                · exact w
                · exact absurd (nI_le w (by omega)) q
              have vi := vp_in_nI (n := v) (N := 3) hv (by decide)
              have hl : bd2 (valC (env1 P n tn g h G) (cd P v)) := (tx_okc hb1 (hP.1 v hv)).2.2
              have bX := hbX v hv
              have bK := hbK v hv
              rw [nI_clamp (by omega), c4 v hv, c5 v hv, c6 v hv]
              refine ⟨vi, vi, vi, n_held ?_⟩
              unfold bd1 at bX
              unfold bd2 at bK hl
              rw [guess_mul (h := h) (lz_toInt ⟨by omega, by omega⟩) (lz_toInt ⟨by omega, by omega⟩) (lz_toInt ⟨by omega, by omega⟩) bX bK hl h5]
              refine ⟨vi, fun s6 h6 x7 h7 => ?_⟩
              have e7 : x7 = nI (v + 1) := h7.trans (nI_1 v)
              subst h6; subst e7
              refine ih2 (v + 1) _ (by omega) (by omega) (SameS_t c0 (SameS_L _ _ (by decide))) c1 c2 c3 c4 c5 c6 (fun u hu => ?_)
              show vp_updL (z.2.1 16) v _ u = _
              by_cases e : u = v
              · subst e; rw [pk_uLs]; rfl
              · rw [pk_uLn e]; exact c7 u (by omega)
        subst h3
        obtain ⟨c0, c1, c2, c3, c4, c5, c6⟩ := hz
        exact last 4 0 _ rfl (by decide) (SameS_t c0 (SameS_S _ _ (by decide))) rfl c2 c3 c4 c5 (fun u hu => z18 u (by omega)) (fun u hu => by omega)
      · have hv : v < 3 := by
          rcases Nat.lt_or_ge v 3 with w | w
          · exact w
          · exact absurd (nI_le w (by omega)) q
        have vi := vp_in_nI (n := v) (N := 3) hv (by decide)
        have e1 : z.1 1 = m.1 1 := hz.1.1 1 (by decide)
        have tx := hP.1 v hv
        have hE := EnvM_guess (m := z) (t0 := nI tn) (h := nI h) (X := stX g n) (G := G) hP (by rw [e1]; exact hR) (PM_S hM hz.1) hG hz.2.1 hz.2.2.1 hz.2.2.2.1 (fun v hv => ⟨hz.2.2.2.2.1 v hv, hbX v hv⟩) (fun v hv => ⟨hz.2.2.2.2.2.2 v hv, hGb v hv⟩) (by omega) (by omega) (by omega) (by omega) (by omega)
        rw [eh] at hE
        refine n_worksOut tx.1 (by rw [e1]; exact hR.1 v hv) hv hb1 hE tx.2.1 tx.2.2 (fun y2 hy2 => ⟨vi, fun s10 h10 x11 h11 => ?_⟩)
        have e11 : x11 = nI (v + 1) := h11.trans (nI_1 v)
        subst e11
        rw [nI_clamp (by omega)] at h10
        subst h10
        have gz := GS_V hz hy2
        refine ih (v + 1) _ (by omega) (by omega) ⟨SameS_t gz.1 (SameS_L _ _ (by decide)), gz.2.1, gz.2.2.1, gz.2.2.2.1, gz.2.2.2.2.1, gz.2.2.2.2.2.1, gz.2.2.2.2.2.2⟩ (fun u hu => ?_)
        show vp_updL (y2.2.1 18) v _ u = _
        by_cases e : u = v
        · subst e; rw [pk_uLs]; rfl
        · rw [pk_uLn e, hy2.2.1 18 (by decide)]; exact z18 u (by omega)
  intro s1 e1
  subst e1
  obtain ⟨c0, c1, c2, c3, c4, c5, c6⟩ := hy
  exact ⟨4, seconds 4 0 _ rfl (by decide) ⟨SameS_t c0 (SameS_S _ _ (by decide)), rfl, c2, c3, c4, c5, c6⟩ (fun u hu => by omega)⟩
end
