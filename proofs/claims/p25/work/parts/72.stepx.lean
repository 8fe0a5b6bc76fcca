/-! the class takes a step -/
def SameB (S : Nat → Prop) (a b : RT) : Prop := (∀ j, ¬ S j → b.1 j = a.1 j) ∧ b.2 = a.2
theorem SameB_t {S : Nat → Prop} {a b c : RT} (h : SameB S a b) (k : SameB S b c) : SameB S a c := ⟨fun j hj => (k.1 j hj).trans (h.1 j hj), k.2.trans h.2⟩
theorem n_slopes5 {p s : RT} {P : PB} {env : Nat → Int} {K : RT → Prop} (hP : POKp P) (hS : SXp s P) (hE : ∀ q, q < 22 → bd2 (env q)) (hk : KN env (fun q => q < 4 ∨ (bb P).testBit q = true) p) (h : ∀ y, SameB (fun j => j = 2 ∨ j = 5) p y → (∀ v, v < 3 → y.1 5 v = iz (valC env (cd P v))) → K y) : wp_X7_workOutSlopes_5 p s K := by
  have key : ∀ (f v : Nat) (y : RT), f + v = 4 → v ≤ 3 → SameB (fun j => j = 2 ∨ j = 5) p y → (∀ u, u < v → y.1 5 u = iz (valC env (cd P u))) → lp_X7_workOutSlopes_5_2 s K f (nI v) y := by
    intro f
    induction f with
    | zero => intro v y h1 h2 hy hv; omega
    | succ f ih =>
      intro v y h1 h2 hy hv
      refine ⟨fun z => ?_, fun z => ?_⟩
      · have := (nI_leI (a := 3) (by decide) (by omega)).mp z
        exact h y hy (fun u hu => hv u (by omega))
      · have hv3 : v < 3 := by
          rcases Nat.lt_or_ge v 3 with w | w
          · exact w
          · exact absurd (nI_le w (by omega)) z
        have ek : KN env (fun q => q < 4 ∨ (bb P).testBit q = true) y := fun q hq hs => by rw [hy.1 1 (by omega)]; exact hk q hq hs
        refine n_workP hP hS hv3 hE ek (fun y2 hy2 => n_put (by decide) ?_)
        rw [pt_n (by decide) hv3]
        intro s5 h5 x6 h6
        have e6 : x6 = nI (v + 1) := h6.trans (nI_1 v)
        subst h5; subst e6
        refine ih (v + 1) _ (by omega) (by omega) ⟨fun j hj => ?_, hy2.2.trans hy.2⟩ (fun u hu => ?_)
        · show (if j = 5 then _ else y2.1 j) = _
          rw [if_neg (by omega), hy2.1 j (by omega)]
          exact hy.1 j hj
        · show upd (y2.1 5) v _ u = _
          by_cases e : u = v
          · subst e; exact pk_us
          · rw [pk_un e, hy2.1 5 (by decide)]; exact hv u (by omega)
  exact ⟨4, key 4 0 p rfl (by decide) ⟨fun _ _ => rfl, rfl⟩ (fun u hu => by omega)⟩
theorem n_slopes6 {p s : RT} {P : PB} {env : Nat → Int} {K : RT → Prop} (hP : POKp P) (hS : SXp s P) (hE : ∀ q, q < 22 → bd2 (env q)) (hk : KN env (fun q => q < 4 ∨ (bb P).testBit q = true) p) (h : ∀ y, SameB (fun j => j = 2 ∨ j = 6) p y → (∀ v, v < 3 → y.1 6 v = iz (valC env (cd P v))) → K y) : wp_X7_workOutSlopes_6 p s K := by
  have key : ∀ (f v : Nat) (y : RT), f + v = 4 → v ≤ 3 → SameB (fun j => j = 2 ∨ j = 6) p y → (∀ u, u < v → y.1 6 u = iz (valC env (cd P u))) → lp_X7_workOutSlopes_6_2 s K f (nI v) y := by
    intro f
    induction f with
    | zero => intro v y h1 h2 hy hv; omega
    | succ f ih =>
      intro v y h1 h2 hy hv
      refine ⟨fun z => ?_, fun z => ?_⟩
      · have := (nI_leI (a := 3) (by decide) (by omega)).mp z
        exact h y hy (fun u hu => hv u (by omega))
      · have hv3 : v < 3 := by
          rcases Nat.lt_or_ge v 3 with w | w
          · exact w
          · exact absurd (nI_le w (by omega)) z
        have ek : KN env (fun q => q < 4 ∨ (bb P).testBit q = true) y := fun q hq hs => by rw [hy.1 1 (by omega)]; exact hk q hq hs
        refine n_workP hP hS hv3 hE ek (fun y2 hy2 => n_put (by decide) ?_)
        rw [pt_n (by decide) hv3]
        intro s5 h5 x6 h6
        have e6 : x6 = nI (v + 1) := h6.trans (nI_1 v)
        subst h5; subst e6
        refine ih (v + 1) _ (by omega) (by omega) ⟨fun j hj => ?_, hy2.2.trans hy.2⟩ (fun u hu => ?_)
        · show (if j = 6 then _ else y2.1 j) = _
          rw [if_neg (by omega), hy2.1 j (by omega)]
          exact hy.1 j hj
        · show upd (y2.1 6) v _ u = _
          by_cases e : u = v
          · subst e; exact pk_us
          · rw [pk_un e, hy2.1 6 (by decide)]; exact hv u (by omega)
  exact ⟨4, key 4 0 p rfl (by decide) ⟨fun _ _ => rfl, rfl⟩ (fun u hu => by omega)⟩
theorem n_short {p s : RT} {P : PB} {t : Int32} {h : Nat} {K : Int32 → Prop} (hP : POKp P) (hS : SXp s P) (h0 : 0 ≤ t.toInt) (h8 : t.toInt ≤ 8000) (hh : h ≤ 500) (h1 : shortS P t h → K 1) (h2 : ¬ shortS P t h → K 0) : wp_X7_hasShortLag p s t (nI h) K := by
  have eh : (nI h).toInt = (h : Int) := nI_int (by omega)
  have key : ∀ (f d : Nat), f + d = 4 → d ≤ 3 → (∀ e, e < d → ¬ (usP P e ∧ (lgI P e t).toInt ≠ 0 ∧ (lgI P e t).toInt < h)) → lp_X7_hasShortLag_11 p s t (nI h) K f (nI (bb P)) (nI d) := by
    intro f
    induction f with
    | zero => intro d a b c; omega
    | succ f ih =>
      intro d a b c
      refine ⟨fun z => ?_, fun z => ?_⟩
      · have := (nI_leI (a := 3) (by decide) (by omega)).mp z
        exact h2 (fun ⟨e, e1, e2⟩ => c e (by omega) e2)
      · have hd : d < 3 := by
          rcases Nat.lt_or_ge d 3 with w | w
          · exact w
          · exact absurd (nI_le w (by omega)) z
        have go : ∀ x : Int32, x = nI d + (1 : Int32) → ¬ (usP P d ∧ (lgI P d t).toInt ≠ 0 ∧ (lgI P d t).toInt < h) → lp_X7_hasShortLag_11 p s t (nI h) K f (nI (bb P)) x := by
          intro x hx hn
          have ex : x = nI (d + 1) := hx.trans (nI_1 d)
          subst ex
          refine ih (d + 1) (by omega) (by omega) (fun e he => ?_)
          by_cases q : e = d
          · subst q; exact hn
          · exact c e (by omega)
        refine n_lagX hP.2.1 hS.2.1 hS.2.2.1 hd h0 (by omega) ?_
        show wp_X9_needsDelay _ _ _
        have e0 : (iz (lagI (bc P d) (bp P d) t.toInt)) = lgI P d t := rfl
        rw [e0]
        have z0 : lgI P d t = 0 ↔ (lgI P d t).toInt = 0 := by rw [i_eq]; simp only [Int32.toInt_zero]
        refine n_needsDelay (bb_lt hP) hd (fun q => ⟨fun w => absurd w (by decide), fun _ => ⟨fun w x8 h8' => go x8 h8' (fun y => y.2.1 (z0.mp w)), fun w => ⟨fun u x10 h10 => go x10 h10 (fun y => ?_), fun u => h1 ⟨d, hd, (bb_us hP hd).mp q, fun y => w (z0.mpr y), ?_⟩⟩⟩⟩) (fun q => ⟨fun _ x4 h4 => go x4 h4 (fun y => q ((bb_us hP hd).mpr y.1)), fun w => absurd rfl w⟩)
        · rw [i_le, eh] at u
          omega
        · rw [i_le, eh] at u
          omega
  exact n_allOps hP hS ⟨4, key 4 0 rfl (by decide) (fun e he => by omega)⟩
def Same18 (s s' : RT) : Prop := (∀ j, j ≠ 18 → s'.1 j = s.1 j) ∧ s'.2.1 = s.2.1 ∧ ∀ k, k ≠ 1 → s'.2.2 k = s.2.2 k
theorem Same18_t {a b c : RT} (h : Same18 a b) (k : Same18 b c) : Same18 a c := ⟨fun j hj => (k.1 j hj).trans (h.1 j hj), k.2.1.trans h.2.1, fun j hj => (k.2.2 j hj).trans (h.2.2 j hj)⟩
theorem Same18_s (s : RT) (f : Nat → Int32) : Same18 s (rI s 18 f) := ⟨fun _ hj => if_neg hj, rfl, fun _ _ => rfl⟩
theorem n_append {p s : RT} {n tn h r : Nat} {g : Nat → Int32} {K : RT → Prop} {kk yy : Nat → Int32} (hX : PX s n g) (hn : n < 960) (ht : g (n * 8) = nI tn) (h5 : ∀ v, v < 3 → p.1 5 v = kk v) (h4 : ∀ v, v < 3 → p.1 4 v = yy v)
    (hk : ∀ s' g', Same18 s s' → (∀ j, j < n * 8 + 4 → g' j = g j) → (∀ v, v < 3 → g' (n * 8 + 4 + v) = kk v) → g' (n * 8 + 7) = nI r → g' ((n + 1) * 8) = nI (tn + h) → (∀ v, v < 3 → g' ((n + 1) * 8 + 1 + v) = yy v) → s'.1 18 = g' → s'.2.2 1 = nI (n + 1) → K s') : wp_X4_append p s (nI h) (nI r) K := by
  have hs1 := hX.1
  unfold wp_X4_append
  rw [hs1]
  refine ⟨fun _ x2 e2 x3 e3 => ?_, fun z => absurd ((nI_ltI (b := 960) (by omega) (by decide)).mpr hn) z⟩
  rw [ix8] at e2
  subst e2
  rw [ix88] at e3
  subst e3
  rw [show nI (n * 8) + (7 : Int32) = nI (n * 8 + 7) by rw [show (7 : Int32) = nI 7 from rfl, nI_add]]
  refine n_put (by decide) ?_
  rw [pt_n (by decide) (by omega)]
  intro s5 h5'
  refine n_pick (by decide) (n_put (by decide) ?_)
  rw [pk_n (by decide) (by omega), pt_n (by decide) (by omega)]
  intro s8 h8
  have f5 : s5.1 18 = upd (s.1 18) (n * 8 + 7) (nI r) := by rw [h5']; rfl
  have f8 : s8.1 18 = upd (s5.1 18) ((n + 1) * 8) (s5.1 18 (n * 8) + nI h) := by rw [h8]; rfl
  have e8 : s5.1 18 (n * 8) = nI tn := by
    rw [f5, pk_un (by omega), hX.2 _ (by omega), ht]
  rw [e8, nI_add] at f8
  have hS8 : Same18 s s8 := by
    rw [h8, h5']; exact Same18_t (Same18_s _ _) (Same18_s _ _)
  have n8 : s8.2.2 1 = nI n := by rw [h8, h5']; exact hs1
  have key : ∀ (f v : Nat) (y : RT), f + v = 4 → v ≤ 3 → Same18 s y → y.2.2 1 = nI n → (∀ j, j < n * 8 + 4 → y.1 18 j = g j) → (∀ u, u < v → y.1 18 (n * 8 + 4 + u) = kk u ∧ y.1 18 ((n + 1) * 8 + 1 + u) = yy u) → y.1 18 (n * 8 + 7) = nI r → y.1 18 ((n + 1) * 8) = nI (tn + h) → lp_X4_append_63 p (nI h) (nI r) K f (nI (n * 8)) (nI ((n + 1) * 8)) (nI v) y := by
    intro f
    induction f with
    | zero => intro v y a b; omega
    | succ f ih =>
      intro v y a b hy hy1 q1 q2 q3 q4
      refine ⟨fun z s10 h10 => ?_, fun z => ?_⟩
      · have := (nI_leI (a := 3) (by decide) (by omega)).mp z
        refine hk s10 (y.1 18) ?_ q1 (fun u hu => (q2 u (by omega)).1) q3 q4 (fun u hu => (q2 u (by omega)).2) ?_ ?_
        · rw [h10]; exact Same18_t hy ⟨fun _ _ => rfl, rfl, fun _ hj => if_neg hj⟩
        · rw [h10]; rfl
        · rw [h10]
          show y.2.2 1 + 1 = _
          rw [hy1, nI_1]
      · have hv : v < 3 := by
          rcases Nat.lt_or_ge v 3 with w | w
          · exact w
          · exact absurd (nI_le w (by omega)) z
        rw [ix84, ix81]
        refine n_pick (by decide) (n_put (by decide) ?_)
        rw [pk_n (by decide) hv, pt_n (by decide) (by omega)]
        intro s13 h13
        refine n_pick (by decide) (n_put (by decide) ?_)
        rw [pk_n (by decide) hv, pt_n (by decide) (by omega)]
        intro s16 h16 x17 h17
        have e17 : x17 = nI (v + 1) := h17.trans (nI_1 v)
        subst e17
        have f13 : s13.1 18 = upd (y.1 18) (n * 8 + 4 + v) (kk v) := by rw [h13, ← h5 v hv]; rfl
        have f16 : s16.1 18 = upd (s13.1 18) ((n + 1) * 8 + 1 + v) (yy v) := by rw [h16, ← h4 v hv]; rfl
        refine ih (v + 1) s16 (by omega) (by omega) ?_ ?_ (fun j hj => ?_) (fun u hu => ?_) ?_ ?_
        · rw [h16, h13]; exact Same18_t hy (Same18_t (Same18_s _ _) (Same18_s _ _))
        · rw [h16, h13]; exact hy1
        · rw [f16, pk_un (by omega), f13, pk_un (by omega)]; exact q1 j hj
        · by_cases e : u = v
          · subst e
            exact ⟨by rw [f16, pk_un (by omega), f13, pk_us], by rw [f16, pk_us]⟩
          · exact ⟨by rw [f16, pk_un (by omega), f13, pk_un (by omega)]; exact (q2 u (by omega)).1, by rw [f16, pk_un (by omega), f13, pk_un (by omega)]; exact (q2 u (by omega)).2⟩
        · rw [f16, pk_un (by omega), f13, pk_un (by omega)]; exact q3
        · rw [f16, pk_un (by omega), f13, pk_un (by omega)]; exact q4
  refine ⟨4, key 4 0 s8 rfl (by decide) hS8 n8 (fun j hj => ?_) (fun u hu => by omega) ?_ ?_⟩
  · rw [f8, pk_un (by omega), f5, pk_un (by omega)]; exact hX.2 j hj
  · rw [f8, pk_un (by omega), f5, pk_us]
  · rw [f8, pk_us]
