/-! the reference's two stacks: values and signs -/
def SameV (m y : RT) : Prop := (∀ j, j ≠ 21 → y.1 j = m.1 j) ∧ (∀ j, j ≠ 20 → y.2.1 j = m.2.1 j) ∧ ∀ k, k ≠ 29 → k ≠ 30 → y.2.2 k = m.2.2 k
theorem SameV_r (y : RT) : SameV y y := ⟨fun _ _ => rfl, fun _ _ => rfl, fun _ _ _ => rfl⟩
theorem SameV_t {a b c : RT} (h : SameV a b) (k : SameV b c) : SameV a c := ⟨fun j hj => (k.1 j hj).trans (h.1 j hj), fun j hj => (k.2.1 j hj).trans (h.2.1 j hj), fun j h1 h2 => (k.2.2 j h1 h2).trans (h.2.2 j h1 h2)⟩
theorem SameV_L (y : RT) (f : Nat → Int64) : SameV y (rL y 20 f) := ⟨fun _ _ => rfl, fun _ hj => if_neg hj, fun _ _ _ => rfl⟩
theorem SameV_I (y : RT) (f : Nat → Int32) : SameV y (rI y 21 f) := ⟨fun _ hj => if_neg hj, fun _ _ => rfl, fun _ _ _ => rfl⟩
theorem SameV_29 (y : RT) (v : Int32) : SameV y (rS y 29 v) := ⟨fun _ _ => rfl, fun _ _ => rfl, fun _ h1 _ => if_neg h1⟩
theorem SameV_30 (y : RT) (v : Int32) : SameV y (rS y 30 v) := ⟨fun _ _ => rfl, fun _ _ => rfl, fun _ _ h2 => if_neg h2⟩
def StL (f : Nat → Int64) : List Int → Prop
  | [] => True
  | a :: r => f r.length = lz a ∧ StL f r
def SgX (f : Nat → Int32) : List Nat → Prop
  | [] => True
  | a :: r => f r.length = nI a ∧ SgX f r
def WS (y : RT) (vs : List Int) (ss : List Nat) : Prop := y.2.2 29 = nI vs.length ∧ y.2.2 30 = nI ss.length ∧ StL (y.2.1 20) vs ∧ SgX (y.1 21) ss ∧ StB vs ∧ ∀ c, c ∈ ss → c ≤ 126
theorem StL_upd {f : Nat → Int64} {k : Nat} {x : Int64} : ∀ {st : List Int}, StL f st → st.length ≤ k → StL (vp_updL f k x) st := by
  intro st
  induction st with
  | nil => intro _ _; trivial
  | cons a r ih =>
    intro h hk
    simp only [List.length_cons] at hk
    refine ⟨?_, ih h.2 (by omega)⟩
    rw [pk_uLn (by omega)]
    exact h.1
theorem SgX_upd {f : Nat → Int32} {k : Nat} {x : Int32} : ∀ {st : List Nat}, SgX f st → st.length ≤ k → SgX (upd f k x) st := by
  intro st
  induction st with
  | nil => intro _ _; trivial
  | cons a r ih =>
    intro h hk
    simp only [List.length_cons] at hk
    refine ⟨?_, ih h.2 (by omega)⟩
    rw [pk_un (by omega)]
    exact h.1
theorem n_putsSign {y : RT} {vs : List Int} {ss : List Nat} {c : Nat} {K : RT → Prop} (hW : WS y vs ss) (hs : ss.length < 160) (hc : c ≤ 126) (h : ∀ y', SameV y y' → WS y' vs (c :: ss) → K y') : wp_X10_putsSign y (nI c) K := by
  obtain ⟨w1, w2, w3, w4, w5, w6⟩ := hW
  unfold wp_X10_putsSign
  rw [w2, nI_clamp (by omega)]
  refine ⟨vp_in_nI hs (by decide), fun s1 e1 s2 e2 => ?_⟩
  subst e1; subst e2
  refine h _ ⟨fun j hj => if_neg hj, fun _ _ => rfl, fun k h1 h2 => if_neg h2⟩ ⟨w1, ?_, w3, ⟨?_, SgX_upd w4 (Nat.le_refl _)⟩, w5, fun d hd => ?_⟩
  · show y.2.2 30 + 1 = _
    rw [w2, nI_1]; rfl
  · show upd (y.1 21) ss.length (nI c) ss.length = nI c
    exact pk_us
  · rcases List.mem_cons.mp hd with q | q
    · omega
    · exact w6 d q
theorem n_negates {vs : List Int} {ss0 : List Nat} {K : RT → Prop} (hnt : ∀ r, ss0 ≠ 126 :: r) : ∀ (g : Nat) (x : Int) (y : RT), WS y (x :: vs) (List.replicate g 126 ++ ss0) → vs.length < 80 → g + ss0.length ≤ 160 → (∀ y', SameV y y' → WS y' (ngI g x :: vs) ss0 → K y') → lp_X10_negates_0 K (g + 1) y := by
  intro g
  induction g with
  | zero =>
    intro x y hW hv hs h
    rw [List.replicate_zero, List.nil_append] at hW
    have hK : K y := h y (SameV_r y) hW
    match ss0, hnt, hs, hW with
    | [], hnt, hs, hW =>
      refine ⟨fun _ => hK, fun q => absurd ?_ q⟩
      rw [hW.2.1]
      exact nI_le (Nat.le_refl 0) (by decide)
    | c :: r, hnt, hs, hW =>
      simp only [List.length_cons] at hs
      have w2 : y.2.2 30 = nI (r.length + 1) := hW.2.1
      refine ⟨fun _ => hK, fun _ => ?_⟩
      have e : y.2.2 30 - 1 = nI r.length := by rw [w2, p1 (by omega)]; rfl
      rw [e, nI_clamp (by omega), hW.2.2.2.1.1]
      have hc := hW.2.2.2.2.2 c (List.mem_cons_self ..)
      refine ⟨vp_in_nI (by omega) (by decide), fun _ => hK, fun q => ?_⟩
      have : c = 126 := (chr hc (Nat.le_refl 126)).mp q
      subst this
      exact absurd rfl (hnt r)
  | succ g ih =>
    intro x y hW hv hs h
    rw [List.replicate_succ, List.cons_append] at hW
    obtain ⟨w1, w2, w3, w4, w5, w6⟩ := hW
    generalize hr : List.replicate g 126 ++ ss0 = r at w2 w4 w6
    have hrl : r.length = g + ss0.length := by rw [← hr, List.length_append, List.length_replicate]
    have w2' : y.2.2 30 = nI (r.length + 1) := w2
    have e : y.2.2 30 - 1 = nI r.length := by rw [w2', p1 (by omega)]; rfl
    refine ⟨fun q => ?_, fun _ => ?_⟩
    · rw [w2'] at q
      have := (nI_leI (b := 0) (by omega) (by decide)).mp q
      omega
    · rw [e, nI_clamp (by omega), w4.1]
      refine ⟨vp_in_nI (by omega) (by decide), fun q => absurd rfl q, fun _ s3 e3 => ?_⟩
      subst e3
      have w1' : y.2.2 29 = nI (vs.length + 1) := w1
      have e5 : (rS y 30 (nI r.length)).2.2 29 - 1 = nI vs.length := by
        show y.2.2 29 - 1 = _
        rw [w1', p1 (by omega)]; rfl
      rw [e5, nI_clamp (by omega)]
      have e6 : (rS y 30 (nI r.length)).2.1 20 vs.length = lz x := w3.1
      rw [e6]
      have hx : -2000000000 ≤ x ∧ x ≤ 2000000000 := w5.1
      refine ⟨vp_in_nI hv (by decide), n_held ⟨vp_in_nI hv (by decide), fun s5 h5 => ?_⟩⟩
      subst h5
      have e7 : (-lz x).toInt = -x := l_neg (lz_toInt ⟨by omega, by omega⟩) ⟨by omega, by omega⟩
      rw [e7]
      have hh := hdI_in (-x)
      refine ih (hdI (-x)) _ ⟨w1', ?_, ⟨?_, StL_upd w3.2 (Nat.le_refl _)⟩, ?_, ⟨⟨by omega, by omega⟩, w5.2⟩, fun c hc => ?_⟩ hv (by omega) (fun y' hy' hW' => h y' (SameV_t (SameV_t (SameV_30 y _) (SameV_L _ _)) hy') hW')
      · rw [hr]; rfl
      · show vp_updL (y.2.1 20) vs.length (lz (hdI (-x))) vs.length = _
        exact pk_uLs
      · rw [hr]; exact w4.2
      · rw [hr] at hc; exact w6 c (List.mem_cons_of_mem _ hc)
theorem n_puts {y : RT} {vs : List Int} {ss0 : List Nat} {x : Int} {g : Nat} {K : RT → Prop} (hnt : ∀ r, ss0 ≠ 126 :: r) (hW : WS y vs (List.replicate g 126 ++ ss0)) (hx : bd2 x) (hv : vs.length < 80) (hs : g + ss0.length ≤ 160) (h : ∀ y', SameV y y' → WS y' (ngI g x :: vs) ss0 → K y') : wp_X10_puts y (lz x) K := by
  obtain ⟨w1, w2, w3, w4, w5, w6⟩ := hW
  unfold wp_X10_puts
  rw [w1, nI_clamp (by omega)]
  refine ⟨vp_in_nI hv (by decide), fun s1 e1 s2 e2 => ⟨g + 1, ?_⟩⟩
  subst e1; subst e2
  refine n_negates hnt g x _ ⟨?_, w2, ⟨pk_uLs, StL_upd w3 (Nat.le_refl _)⟩, w4, ⟨hx, w5⟩, w6⟩ hv hs (fun y' hy' hW' => h y' (SameV_t (SameV_t (SameV_L y _) (SameV_29 _ _)) hy') hW')
  show y.2.2 29 + 1 = _
  rw [w1, nI_1]; rfl
/-! signs that are carried out -/
def rk (c : Nat) : Nat := if c = 42 then 2 else if c = 47 then 2 else if c = 43 then 1 else if c = 45 then 1 else 0
def topr : List Nat → Nat
  | [] => 0
  | c :: _ => rk c
def joinS (c : Nat) (a b : Int) : Int := joinZ (if c = 43 then 2 else if c = 45 then 3 else if c = 42 then 4 else 5) a b
def carry (r : Nat) : List Nat → List Int → List Int × List Nat
  | [], vs => (vs, [])
  | c :: ss, vs => if rk c < r then (vs, c :: ss) else match vs with
    | b :: a :: t => carry r ss (joinS c a b :: t)
    | _ => (vs, c :: ss)
theorem carry_top {r : Nat} {ss : List Nat} {vs : List Int} (h : topr ss < r) : carry r ss vs = (vs, ss) := by
  match ss, h with
  | [], _ => rfl
  | c :: t, h => exact if_pos h
theorem carry_ge {r c : Nat} {ss : List Nat} {a b : Int} {t : List Int} (h : ¬ rk c < r) : carry r (c :: ss) (b :: a :: t) = carry r ss (joinS c a b :: t) := if_neg h
theorem carry_12 : ∀ {ss : List Nat} {vs vs1 : List Int} {ss1 : List Nat}, carry 2 ss vs = (vs1, ss1) → topr ss1 < 2 → carry 1 ss vs = carry 1 ss1 vs1 := by
  intro ss
  induction ss with
  | nil =>
    intro vs vs1 ss1 h _
    have h' : (vs, ([] : List Nat)) = (vs1, ss1) := h
    cases h'
    rfl
  | cons c ss ih =>
    intro vs vs1 ss1 h ht
    by_cases q : rk c < 2
    · have h' : carry 2 (c :: ss) vs = (vs, c :: ss) := if_pos q
      rw [h'] at h
      cases h
      rfl
    · match vs, h with
      | [], h =>
        have h' : carry 2 (c :: ss) [] = ([], c :: ss) := if_neg q
        rw [h'] at h
        cases h
        exact absurd ht q
      | [b], h =>
        have h' : carry 2 (c :: ss) [b] = ([b], c :: ss) := if_neg q
        rw [h'] at h
        cases h
        exact absurd ht q
      | b :: a :: t, h =>
        rw [carry_ge q] at h
        rw [carry_ge (by omega)]
        exact ih h ht
theorem rk_le (c : Nat) : rk c ≤ 2 := by
  unfold rk
  split
  · decide
  · split
    · decide
    · split
      · decide
      · split <;> decide
theorem n_rank {c : Nat} {K : Int32 → Prop} (hc : c ≤ 126) (h : K (nI (rk c))) : wp_X10_rank (nI c) K := by
  have e : ∀ j : Nat, j ≤ 126 → (nI c = nI j ↔ c = j) := fun j hj => chr hc hj
  unfold wp_X10_rank
  rw [show (42 : Int32) = nI 42 from rfl, show (47 : Int32) = nI 47 from rfl, show (43 : Int32) = nI 43 from rfl, show (45 : Int32) = nI 45 from rfl, e 42 (by decide), e 47 (by decide), e 43 (by decide), e 45 (by decide)]
  unfold rk at h
  refine ⟨fun q => ?_, fun q1 => ⟨fun q2 => ⟨fun q => ?_, fun q3 => ⟨fun q => ?_, fun q => ?_⟩⟩, fun q => ?_⟩⟩
  · rw [if_pos q] at h; exact h
  · rw [if_neg q1, if_neg q2, if_pos q] at h; exact h
  · rw [if_neg q1, if_neg q2, if_neg q3, if_neg q] at h; exact h
  · rw [if_neg q1, if_neg q2, if_neg q3, if_pos q] at h; exact h
  · rw [if_neg q1, if_pos q] at h; exact h
theorem joinZ2 (a b : Int) : joinZ 2 a b = hdI (a + b) := by unfold joinZ; rw [if_pos rfl]
theorem joinZ3 (a b : Int) : joinZ 3 a b = hdI (a - b) := by unfold joinZ; rw [if_neg (by decide), if_pos rfl]
theorem joinZ4 (a b : Int) : joinZ 4 a b = hdI ((a * b).tdiv 1000) := by unfold joinZ; rw [if_neg (by decide), if_neg (by decide), if_pos rfl]
theorem joinZ5 (a b : Int) : joinZ 5 a b = hdI (if b = 0 then 0 else (a * 1000).tdiv b) := by unfold joinZ; rw [if_neg (by decide), if_neg (by decide), if_neg (by decide), if_pos rfl]
theorem n_carriesOut {y : RT} {vs : List Int} {ss : List Nat} {a b : Int} {c : Nat} {K : RT → Prop} (hW : WS y (b :: a :: vs) (c :: ss)) (hv : vs.length + 2 ≤ 80) (hs : ss.length < 160) (h : ∀ y', SameV y y' → WS y' (joinS c a b :: vs) ss → K y') : wp_X10_carriesOut y K := by
  obtain ⟨w1, w2, w3, w4, w5, w6⟩ := hW
  have hc := w6 c (List.mem_cons_self ..)
  have w1' : y.2.2 29 = nI (vs.length + 1 + 1) := w1
  have w2' : y.2.2 30 = nI (ss.length + 1) := w2
  intro s1 e1
  have e2 : y.2.2 30 - 1 = nI ss.length := by rw [w2', p1 (by omega)]; rfl
  rw [e2] at e1
  subst e1
  have e3 : (rS y 30 (nI ss.length)).2.2 30 = nI ss.length := rfl
  rw [e3, nI_clamp (by omega)]
  refine ⟨vp_in_nI (by omega) (by decide), fun x2 h2 s3 h3 => ?_⟩
  have e4 : x2 = nI c := h2.trans w4.1
  subst e4
  have e5 : (rS y 30 (nI ss.length)).2.2 29 - 1 = nI (vs.length + 1) := by
    show y.2.2 29 - 1 = _
    rw [w1', p1 (by omega)]; rfl
  rw [e5] at h3
  subst h3
  generalize hz : rS (rS y 30 (nI ss.length)) 29 (nI (vs.length + 1)) = z
  have z29 : z.2.2 29 = nI (vs.length + 1) := by rw [← hz]; rfl
  have zL : z.2.1 = y.2.1 := by rw [← hz]; rfl
  have e6 : nI (vs.length + 1) - 1 = nI vs.length := by rw [p1 (by omega)]; rfl
  rw [z29, nI_clamp (by omega)]
  refine ⟨vp_in_nI (by omega) (by decide), fun x4 h4 => ?_⟩
  have e4 : x4 = lz b := h4.trans (by rw [zL]; exact w3.1)
  subst e4
  rw [e6, nI_clamp (by omega)]
  refine ⟨vp_in_nI (by omega) (by decide), fun x5 h5 => ?_⟩
  have e5 : x5 = lz a := h5.trans (by rw [zL]; exact w3.2.1)
  subst e5
  have hb2 : -2000000000 ≤ b ∧ b ≤ 2000000000 := w5.1
  have ha2 : -2000000000 ≤ a ∧ a ≤ 2000000000 := w5.2.1
  have tb : (lz b).toInt = b := lz_toInt ⟨by omega, by omega⟩
  have ta : (lz a).toInt = a := lz_toInt ⟨by omega, by omega⟩
  have hj : ∀ v : Int64, hdI v.toInt = joinS c a b → jp_X10_carriesOut_114 K v z := by
    intro v ev
    unfold jp_X10_carriesOut_114
    refine n_held ?_
    rw [ev, z29, e6, nI_clamp (by omega)]
    refine ⟨vp_in_nI (by omega) (by decide), fun s11 h11 => ?_⟩
    subst h11
    refine h _ ?_ ⟨?_, ?_, ⟨?_, ?_⟩, ?_, ⟨?_, w5.2.2⟩, fun d hd => w6 d (List.mem_cons_of_mem _ hd)⟩
    · rw [← hz]
      exact ⟨fun _ _ => rfl, fun j hj => if_neg hj, fun k h1 h2 => (if_neg h1).trans (if_neg h2)⟩
    · rw [← hz]; rfl
    · rw [← hz]; rfl
    · exact pk_uLs
    · refine StL_upd (f := z.2.1 20) ?_ (Nat.le_refl _)
      rw [zL]; exact w3.2.2
    · rw [← hz]; exact w4.2
    · have := hdI_in v.toInt
      rw [ev] at this
      omega
  have e : ∀ j : Nat, j ≤ 126 → (nI c = nI j ↔ c = j) := fun j hj => chr hc hj
  rw [show (42 : Int32) = nI 42 from rfl, show (43 : Int32) = nI 43 from rfl, show (45 : Int32) = nI 45 from rfl, e 42 (by decide), e 43 (by decide), e 45 (by decide)]
  unfold joinS at hj
  refine ⟨fun q1 => ⟨fun q2 => ⟨fun q3 => ⟨fun q4 => ?_, fun q4 => ?_⟩, fun q3 => ?_⟩, fun q2 => ?_⟩, fun q1 => ?_⟩
  · have q5 : ¬ lz b = 0 := fun w => q4 (lgc_eq.mpr w)
    refine ⟨q5, hj _ ?_⟩
    rw [if_neg q1, if_neg q2, if_neg q3]
    have := join_quo ta tb ha2
    rw [if_neg q5] at this
    rw [this, joinZ5]
  · have q5 : lz b = 0 := lgc_eq.mp q4
    refine hj _ ?_
    rw [if_neg q1, if_neg q2, if_neg q3]
    have := join_quo ta tb ha2
    rw [if_pos q5] at this
    rw [this, joinZ5]
  · refine hj _ ?_
    rw [if_neg q1, if_neg q2, if_pos q3, join_mul ta tb ha2 hb2, joinZ4]
  · refine hj _ ?_
    rw [if_neg q1, if_pos q2, l_sub ta tb ⟨by omega, by omega⟩, joinZ3]
  · refine hj _ ?_
    rw [if_pos q1, l_add ta tb ⟨by omega, by omega⟩, joinZ2]
theorem n_carriesAll {r : Nat} {vs2 : List Int} {ss2 : List Nat} {K : RT → Prop} (hr : r = 1 ∨ r = 2) (ht : topr ss2 < r) : ∀ (ss : List Nat) (vs : List Int) (y : RT), WS y vs ss → carry r ss vs = (vs2, ss2) → vs.length ≤ 80 → ss.length ≤ 160 → (∀ y', SameV y y' → WS y' vs2 ss2 → K y') → lp_X10_carriesAll_0 (nI r) K (ss.length + 1) y := by
  intro ss
  induction ss with
  | nil =>
    intro vs y hW hc hv hs h
    have h' : (vs, ([] : List Nat)) = (vs2, ss2) := hc
    cases h'
    refine ⟨fun _ => h y (SameV_r y) hW, fun q => absurd ?_ q⟩
    rw [hW.2.1]
    exact nI_le (Nat.le_refl 0) (by decide)
  | cons c ss ih =>
    intro vs y hW hc hv hs h
    simp only [List.length_cons] at hs
    have w2 : y.2.2 30 = nI (ss.length + 1) := hW.2.1
    have e : y.2.2 30 - 1 = nI ss.length := by rw [w2, p1 (by omega)]; rfl
    refine ⟨fun q => ?_, fun _ => ?_⟩
    · rw [w2] at q
      have := (nI_leI (b := 0) (by omega) (by decide)).mp q
      omega
    · rw [e, nI_clamp (by omega), hW.2.2.2.1.1]
      have h126 := hW.2.2.2.2.2 c (List.mem_cons_self ..)
      have hrk := rk_le c
      refine ⟨vp_in_nI (by omega) (by decide), n_rank h126 ⟨fun q => ?_, fun q => ?_⟩⟩
      · have q' : rk c < r := (nI_ltI (by omega) (by omega)).mp q
        have h' : carry r (c :: ss) vs = (vs, c :: ss) := if_pos q'
        rw [h'] at hc
        cases hc
        exact h y (SameV_r y) hW
      · have q' : ¬ rk c < r := fun w => q ((nI_ltI (by omega) (by omega)).mpr w)
        match vs, hW, hc, hv with
        | [], hW, hc, hv =>
          have h' : carry r (c :: ss) [] = ([], c :: ss) := if_neg q'
          rw [h'] at hc
          cases hc
          exact absurd ht q'
        | [b], hW, hc, hv =>
          have h' : carry r (c :: ss) [b] = ([b], c :: ss) := if_neg q'
          rw [h'] at hc
          cases hc
          exact absurd ht q'
        | b :: a :: t, hW, hc, hv =>
          simp only [List.length_cons] at hv
          rw [carry_ge q'] at hc
          refine n_carriesOut hW (by omega) (by omega) (fun y' hy' hW' => ?_)
          exact ih _ y' hW' hc (by simp only [List.length_cons]; omega) (by omega) (fun y2 hy2 hW2 => h y2 (SameV_t hy' hy2) hW2)
