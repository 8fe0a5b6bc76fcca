/-! values fit -/
theorem gtN_ok {tv : Nat → Int} {fr te : Nat} : ∀ (f t b : Nat), fr ≤ b → b < t → b ≤ te → te + 1 ≤ f + t → (∀ s, fr ≤ s → s < t → s ≤ te → tv s ≤ tv b) → (∀ s, fr ≤ s → s < b → tv s < tv b) → fr ≤ gtN tv te f t b ∧ gtN tv te f t b ≤ te ∧ (∀ s, fr ≤ s → s ≤ te → tv s ≤ tv (gtN tv te f t b)) ∧ ∀ s, fr ≤ s → s < gtN tv te f t b → tv s < tv (gtN tv te f t b) := by
  intro f
  induction f with
  | zero => intro t b a1 a2 a3 a4 a5 a6; exact ⟨a1, a3, fun s s1 s2 => a5 s s1 (by omega) s2, a6⟩
  | succ f ih =>
    intro t b a1 a2 a3 a4 a5 a6
    unfold gtN
    by_cases q : te < t
    · rw [if_pos q]; exact ⟨a1, a3, fun s s1 s2 => a5 s s1 (by omega) s2, a6⟩
    · rw [if_neg q]
      by_cases q2 : tv b < tv t
      · rw [if_pos q2]
        refine ih (t + 1) t (by omega) (by omega) (by omega) (by omega) (fun s s1 s2 s3 => ?_) (fun s s1 s2 => ?_)
        · by_cases e : s = t
          · subst e; omega
          · have := a5 s s1 (by omega) s3; omega
        · have := a5 s s1 s2 (by omega); omega
      · rw [if_neg q2]
        refine ih (t + 1) b a1 (by omega) a3 (by omega) (fun s s1 s2 s3 => ?_) a6
        by_cases e : s = t
        · subst e; omega
        · exact a5 s s1 (by omega) s3
theorem crN_ok {tv : Nat → Int} {lv : Int} {te : Nat} : ∀ (f t : Nat), 1 ≤ t → te + 1 ≤ f + t → (crN tv lv te f t = -2000000004 ∧ ∀ s, t ≤ s → s ≤ te → ¬ (lv ≤ tv s ∧ tv (s - 1) < lv)) ∨ ∃ s, t ≤ s ∧ s ≤ te ∧ crN tv lv te f t = nI s ∧ lv ≤ tv s ∧ tv (s - 1) < lv := by
  intro f
  induction f with
  | zero => intro t a1 a2; exact Or.inl ⟨rfl, fun s s1 s2 => by omega⟩
  | succ f ih =>
    intro t a1 a2
    unfold crN
    by_cases q : te < t
    · rw [if_pos q]; exact Or.inl ⟨rfl, fun s s1 s2 => by omega⟩
    · rw [if_neg q]
      by_cases q2 : lv ≤ tv t ∧ tv (t - 1) < lv
      · rw [if_pos q2]; exact Or.inr ⟨t, Nat.le_refl t, by omega, rfl, q2⟩
      · rw [if_neg q2]
        rcases ih (t + 1) (by omega) (by omega) with ⟨h1, h2⟩ | ⟨s, s1, s2, s3⟩
        · refine Or.inl ⟨h1, fun s s1 s2 => ?_⟩
          by_cases e : s = t
          · subst e; exact q2
          · exact h2 s (by omega) s2
        · exact Or.inr ⟨s, by omega, s2, s3⟩
theorem noCross {tv : Nat → Int} {lv : Int} {te : Nat} (h : ∀ s, 1 ≤ s → s ≤ te → ¬ (lv ≤ tv s ∧ tv (s - 1) < lv)) (h0 : tv 0 < lv) : ∀ s, s ≤ te → tv s < lv := by
  intro s
  induction s with
  | zero => intro _; exact h0
  | succ s ih =>
    intro hs
    have h1 := ih (by omega)
    have h2 := h (s + 1) (by omega) hs
    rw [Nat.add_sub_cancel] at h2
    omega
section
variable {A : AB}
theorem tvA_bd (hA : AOK A) {v : Nat} (hv : v < 3) (t : Nat) : -1000000000 ≤ tvA A v t ∧ tvA A v t ≤ 1000000000 := tv_bd (n := (aT A).1) (g := (aT A).2.2) (u := nI t) hA.1.1 hv
theorem val_at (hA : AOK A) {v t : Nat} (hv : v < 3) (ht : t ≤ (aT A).2.1) : qr_value A (nI v) (nI t) = iz (tvA A v t) := by
  have h8 := (endA hA).2.1
  have e0 : (0 : Int32).toInt = 0 := by decide
  have e1 : (-10000 : Int32).toInt = -10000 := by decide
  have e2 : (2 : Int32).toInt = 2 := by decide
  have e8 : (8000 : Int32).toInt = 8000 := by decide
  have ev : (nI v).toInt = (v : Int) := nI_int (by omega)
  have et : (nI t).toInt = (t : Int) := nI_int (by omega)
  unfold qr_value
  rw [if_pos ⟨wi_eq.mpr (by omega), wi_eq.mpr (by omega)⟩, if_pos (by omega), nI_clamp (by omega)]
  rfl
theorem val_int (hA : AOK A) {v t : Nat} (hv : v < 3) (ht : t ≤ (aT A).2.1) : (qr_value A (nI v) (nI t)).toInt = tvA A v t := by
  have hb := tvA_bd hA hv t
  rw [val_at hA hv ht, iz_toInt ⟨by omega, by omega⟩]
theorem val_out (hA : AOK A) {v : Nat} (hv : v < 3) : ((aT A).2.1 = 8000 → qr_value A (nI v) (nI ((aT A).2.1 + 1)) = -2000000001) ∧ ((aT A).2.1 ≠ 8000 → qr_value A (nI v) (nI ((aT A).2.1 + 1)) = -2000000004) := by
  have h8 := (endA hA).2.1
  have e0 : (0 : Int32).toInt = 0 := by decide
  have e1 : (-10000 : Int32).toInt = -10000 := by decide
  have e2 : (2 : Int32).toInt = 2 := by decide
  have e8 : (8000 : Int32).toInt = 8000 := by decide
  have ev : (nI v).toInt = (v : Int) := nI_int (by omega)
  have et : (nI ((aT A).2.1 + 1)).toInt = (((aT A).2.1 + 1 : Nat) : Int) := nI_int (by omega)
  unfold qr_value
  refine ⟨fun h => ?_, fun h => ?_⟩
  · rw [if_neg (fun q => by have := wi_eq.mp q.2; omega)]
  · rw [if_pos ⟨wi_eq.mpr (by omega), wi_eq.mpr (by omega)⟩, if_neg (by omega)]
theorem great_at (hA : AOK A) {v f o : Nat} (hv : v < 3) (hf : f ≤ o) (ho : o ≤ (aT A).2.1) : qr_great A (nI v) (nI f) (nI o) 0 = iz (tvA A v (grA A v f o)) ∧ qr_great A (nI v) (nI f) (nI o) 1 = nI (grA A v f o) := by
  have h8 := (endA hA).2.1
  have e0 : (0 : Int32).toInt = 0 := by decide
  have e1 : (1 : Int32).toInt = 1 := by decide
  have e2 : (2 : Int32).toInt = 2 := by decide
  have e8 : (8000 : Int32).toInt = 8000 := by decide
  have ev : (nI v).toInt = (v : Int) := nI_int (by omega)
  have ef : (nI f).toInt = (f : Int) := nI_int (by omega)
  have eo : (nI o).toInt = (o : Int) := nI_int (by omega)
  have c1 : wi (nI v) 0 2 = true := wi_eq.mpr (by omega)
  have c2 : wi (nI f) 0 8000 = true := wi_eq.mpr (by omega)
  have c3 : wi (nI o) (nI f) 8000 = true := wi_eq.mpr (by omega)
  unfold qr_great
  rw [nI_clamp (show v < 2147483648 by omega), nI_clamp (show f < 2147483648 by omega), nI_clamp (show o < 2147483648 by omega)]
  refine ⟨?_, ?_⟩
  · rw [if_pos ⟨c1, c2, c3, by decide⟩, if_pos (by omega), if_pos rfl]
  · rw [if_pos ⟨c1, c2, c3, by decide⟩, if_pos (by omega), if_neg (by decide)]
theorem grA_ok (hA : AOK A) {v f o : Nat} (hf : f ≤ o) (ho : o ≤ 8000) : f ≤ grA A v f o ∧ grA A v f o ≤ o ∧ (∀ s, f ≤ s → s ≤ o → tvA A v s ≤ tvA A v (grA A v f o)) ∧ ∀ s, f ≤ s → s < grA A v f o → tvA A v s < tvA A v (grA A v f o) := by
  unfold grA
  refine gtN_ok 8002 (f + 1) f (Nat.le_refl f) (by omega) hf (by omega) (fun s s1 s2 s3 => ?_) (fun s s1 s2 => by omega)
  rw [show s = f by omega]
  exact Int.le_refl _
theorem cross_at (hA : AOK A) {v : Nat} {x : Int32} (hv : v < 3) (hx : -1000000000 ≤ x.toInt ∧ x.toInt ≤ 1000000000) : qr_cross A (nI v) x 1 = crN (tvA A v) x.toInt (aT A).2.1 8001 1 := by
  have e0 : (0 : Int32).toInt = 0 := by decide
  have e2 : (2 : Int32).toInt = 2 := by decide
  have eb : (1000000000 : Int32).toInt = 1000000000 := by decide
  have ebn : (-1000000000 : Int32).toInt = -1000000000 := by decide
  have ev : (nI v).toInt = (v : Int) := nI_int (by omega)
  unfold qr_cross
  rw [if_pos ⟨wi_eq.mpr (by omega), wi_eq.mpr (by omega), by decide⟩, nI_clamp (show v < 2147483648 by omega)]
  rfl
theorem slope_0 (hA : AOK A) {v : Nat} (hv : v < 3) : qr_slope A (nI v) 0 = 0 := by
  have e0 : (0 : Int32).toInt = 0 := by decide
  have e2 : (2 : Int32).toInt = 2 := by decide
  have ev : (nI v).toInt = (v : Int) := nI_int (by omega)
  have hO := hA.1.1.2.2.1 v hv
  unfold qr_slope
  rw [if_pos ⟨wi_eq.mpr (by omega), by decide⟩, if_pos (by omega), nI_clamp (by omega)]
  unfold tsZ tslpZ
  rw [if_neg (by omega)]
  obtain ⟨u1, u2, u3⟩ := upT_ok (bT (aP A) v) 0 (bh (aP A) v)
  have eu : upT (bT (aP A) v) 0 (bh (aP A) v) = bh (aP A) v := by
    rcases Nat.lt_or_ge (upT (bT (aP A) v) 0 (bh (aP A) v)) (bh (aP A) v) with w | w
    · exfalso
      have h1 := u3 w
      have h2 := (hO.2.1 _ w).2.1
      rw [i_lt, e0] at h1
      have h2' : (bT (aP A) v (upT (bT (aP A) v) 0 (bh (aP A) v))).toInt ≤ 0 := h2
      omega
    · omega
  have : hsZ (bh (aP A) v) (bT (aP A) v) (bV (aP A) v) 0 = 0 := by
    unfold hsZ
    by_cases q : upT (bT (aP A) v) 0 (bh (aP A) v) = 0
    · rw [if_pos q]
    · rw [if_neg q, if_pos eu]
  rw [this]
  rfl
theorem diff_nn (hA : AOK A) : ¬ qr_diff A (qr_count A 0) < 0 := by
  obtain ⟨g1, g2, g3, g4, g5⟩ := endA hA
  have hS := hA.1.1.2.2.2.1
  have hS' : 20 ≤ bS (aP A) ∧ bS (aP A) ≤ 500 := hS
  have hbt := (brk_ok hA.1.1 hA.1.2.1).1
  have hP' : POKp (stepP (aP A) (bS (aP A))) := stepP_ok hA.1.1 hS'
  have e0 : (0 : Int32).toInt = 0 := by decide
  have e20 : (20 : Int32).toInt = 20 := by decide
  have e500 : (500 : Int32).toInt = 500 := by decide
  have es : (nI (bS (aP A))).toInt = (bS (aP A) : Int) := nI_int (by omega)
  have gok0 : GOK (stepP (aP A) (bS (aP A))) (qT (aG A)) (qn (aG A)) 0 (0, 0, g00 (stepP (aP A) (bS (aP A)))) := GOK_0 hP'
  obtain ⟨go1, go2⟩ := goN_ok hP' hbt (show 0 < 512 by decide) g2 8000 (0, 0, g00 (stepP (aP A) (bS (aP A)))) (fun _ => gok0) (GOK_mono gok0 (by omega)) (Nat.zero_le _) (by show (aT A).2.1 - 0 ≤ 8000; omega)
  have hpk : POK (trT A (bS (aP A))).1 (trT A (bS (aP A))).2.2 := go1.1
  rw [q0]
  unfold qr_diff
  rw [if_pos (wi_eq.mpr (by omega)), nI_clamp (by omega)]
  have hm := mxI_in (d := fun v => stX (trT A (bS (aP A))).2.2 (trT A (bS (aP A))).1 v - stX (aT A).2.2 (aT A).1 v) 3 (fun u hu => by
    have h1 := stX_bd hpk hu
    have h2 := stX_bd g4 hu
    unfold bd1 at h1 h2
    omega)
  generalize mxI (fun v => stX (trT A (bS (aP A))).2.2 (trT A (bS (aP A))).1 v - stX (aT A).2.2 (aT A).1 v) 3 = m at hm
  have hh := hdI_in m
  have hnn : 0 ≤ hdI m := by unfold hdI; split <;> (try split) <;> omega
  rw [i_lt, iz_toInt (hdI_inI m), e0]
  omega
theorem vf278 (hA : AOK A) {v : Nat} {a1 x3 : Int32} {K : Int32 → Prop} (hv : v < 3) (hK : K 1) : jp_L_valuesFit_278 A (nI v) a1 K x3 1 := ⟨fun q => absurd q (by decide), fun _ => ⟨fun q => absurd (slope_0 hA hv) q, fun _ => ⟨fun _ => hK, fun _ => ⟨fun q => absurd q (diff_nn hA), fun _ => hK⟩⟩⟩⟩
theorem vf191 (hA : AOK A) {v : Nat} {a1 : Int32} {K : Int32 → Prop} (hv : v < 3) (hK : K 1) : jp_L_valuesFit_191 A (nI v) a1 K (nI (aT A).2.1) 1 := by
  have h8 := (endA hA).2.1
  unfold jp_L_valuesFit_191
  rw [nI_1]
  refine n_low (by omega) (by omega) (fun x10 h10 x11 h11 => ?_)
  have hs : lowN (a1 >>> ((3 : Int32) &&& 31)) ((aT A).2.1 + 1) < (aT A).2.1 + 1 := lowN_lt (by omega)
  generalize lowN (a1 >>> ((3 : Int32) &&& 31)) ((aT A).2.1 + 1) = s at hs h10
  have e10 : x10.toInt = tvA A v s := by rw [h10]; exact val_int hA hv (by omega)
  have hb := tvA_bd hA hv s
  rw [cross_at hA hv (by omega), e10] at h11
  have j273 : jp_L_valuesFit_273 A (nI v) a1 K (nI (aT A).2.1) := vf278 hA hv hK
  refine ⟨fun q => absurd q (by decide), fun _ => ?_⟩
  rcases crN_ok (tv := tvA A v) (lv := tvA A v s) (te := (aT A).2.1) 8001 1 (Nat.le_refl 1) (by omega) with ⟨h1, h2⟩ | ⟨t, t1, t2, t3, t4, t5⟩
  · rw [h1] at h11
    refine ⟨fun q => absurd h11 q, fun _ => ⟨fun _ => j273, fun q => ⟨fun _ => ?_, fun _ => j273⟩⟩⟩
    exfalso
    rw [show (0 : Int32) = nI 0 from rfl, i_le, e10, val_int hA hv (Nat.zero_le _)] at q
    have := noCross h2 (by omega) s (by omega)
    omega
  · rw [t3] at h11
    subst h11
    have ne : ¬ nI t = -2000000004 := fun q => by
      have h1 : (nI t).toInt = (-2000000004 : Int32).toInt := by rw [q]
      rw [nI_int (by omega), show (-2000000004 : Int32).toInt = -2000000004 by decide] at h1
      omega
    rw [p1 (show t ≠ 0 by omega)]
    refine ⟨fun _ => ⟨fun q => ?_, fun _ => ⟨fun q => ?_, fun _ => j273⟩⟩, fun q => absurd q ne⟩
    · rw [i_lt, e10, val_int hA hv t2] at q
      omega
    · rw [i_le, e10, val_int hA hv (by omega)] at q
      omega
theorem vf142 (hA : AOK A) {v fr o : Nat} {a1 : Int32} {K : Int32 → Prop} (hv : v < 3) (hf : fr ≤ o) (ho : o ≤ (aT A).2.1) (hK : K 1) : ∀ (f t : Nat), fr ≤ t → t ≤ 20000 → o + 1 ≤ f + t → lp_L_valuesFit_142 A (nI v) a1 K (f + 1) (nI (aT A).2.1) (nI fr) (nI o) (iz (tvA A v (grA A v fr o))) 1 (nI t) := by
  have h8 := (endA hA).2.1
  obtain ⟨m1, m2, m3, m4⟩ := grA_ok (v := v) hA hf (by omega)
  have hb := tvA_bd hA hv (grA A v fr o)
  intro f
  induction f with
  | zero => intro t a b c; exact ⟨fun _ => vf191 hA hv hK, fun q => absurd (nI_lt (by omega) (by omega)) q⟩
  | succ f ih =>
    intro t a b c
    refine ⟨fun _ => vf191 hA hv hK, fun q => ⟨fun q2 => absurd q2 (by decide), fun _ => ⟨fun q3 => ?_, fun _ x24 h24 => ?_⟩⟩⟩
    · exfalso
      have hto : t ≤ o := by
        rcases Nat.lt_or_ge o t with w | w
        · exact absurd (nI_lt w (by omega)) q
        · exact w
      rw [i_lt, iz_toInt ⟨by omega, by omega⟩, val_int hA hv (by omega)] at q3
      have := m3 t a hto
      omega
    · have hto : t ≤ o := by
        rcases Nat.lt_or_ge o t with w | w
        · exact absurd (nI_lt w (by omega)) q
        · exact w
      have hd : (o - fr) / 9 ≤ o - fr := Nat.div_le_self _ _
      have e : nI t + ((1 : Int32) + (nI o - nI fr) / 9) = nI (t + (1 + (o - fr) / 9)) := by
        rw [pk_sub hf, show (9 : Int32) = nI 9 from rfl, nI_div (by omega) (by decide), show (1 : Int32) = nI 1 from rfl, nI_add, nI_add]
      rw [e] at h24
      subst h24
      exact ih _ (by omega) (by omega) (by omega)
theorem n_valuesFit {v : Nat} {a1 : Int32} {K : Int32 → Prop} (hA : AOK A) (hv : v < 3) (hK : K 1) : wp_L_valuesFit A (nI v) a1 K := by
  have h8 := (endA hA).2.1
  intro x1 h1
  rw [q3] at h1
  subst h1
  rw [nI_1]
  refine n_low (by omega) (by omega) ?_
  have hfr : lowN a1 ((aT A).2.1 + 1) < (aT A).2.1 + 1 := lowN_lt (by omega)
  generalize lowN a1 ((aT A).2.1 + 1) = fr at hfr
  have hd : ((aT A).2.1 - fr) / 4 ≤ (aT A).2.1 - fr := Nat.div_le_self _ _
  have e1 : (nI (aT A).2.1 - nI fr) / (4 : Int32) + (1 : Int32) = nI (((aT A).2.1 - fr) / 4 + 1) := by
    rw [pk_sub (by omega), show (4 : Int32) = nI 4 from rfl, nI_div (by omega) (by decide), nI_1]
  rw [e1]
  refine n_low (by omega) (by omega) ?_
  have hq : lowN (a1 >>> ((9 : Int32) &&& 31)) (((aT A).2.1 - fr) / 4 + 1) < ((aT A).2.1 - fr) / 4 + 1 := lowN_lt (by omega)
  generalize lowN (a1 >>> ((9 : Int32) &&& 31)) (((aT A).2.1 - fr) / 4 + 1) = q at hq
  intro x4 h4 x5 h5 x6 h6
  rw [nI_add] at h4
  subst h4
  have ho : fr + q ≤ (aT A).2.1 := by omega
  obtain ⟨y0, y1⟩ := great_at hA hv (Nat.le_add_right fr q) ho
  rw [y0] at h5
  rw [y1] at h6
  obtain ⟨m1, m2, m3, m4⟩ := grA_ok (v := v) hA (Nat.le_add_right fr q) (show fr + q ≤ 8000 by omega)
  have hb := tvA_bd hA hv (grA A v fr (fr + q))
  have j131 : jp_L_valuesFit_131 A (nI v) a1 K (nI (aT A).2.1) (nI fr) (nI (fr + q)) (iz (tvA A v (grA A v fr (fr + q)))) := ⟨fr + q + 1 + 1, vf142 hA hv (Nat.le_add_right fr q) ho hK (fr + q + 1) fr (Nat.le_refl fr) (by omega) (by omega)⟩
  subst h5; subst h6
  generalize grA A v fr (fr + q) = gr at m1 m2 m3 m4 hb j131
  have j107 : ∀ t0 t1 : Int32, t1 = t0 → jp_L_valuesFit_107 A (nI v) a1 K (nI (aT A).2.1) (nI fr) (nI (fr + q)) (iz (tvA A v gr)) (nI gr) t0 t1 := by
    intro t0 t1 ht
    refine ⟨fun w => absurd ht w, fun _ => ⟨fun _ => j131, fun w => ?_⟩⟩
    have hne : gr ≠ fr := fun e => w (by rw [e])
    rw [p1 (show gr ≠ 0 by omega)]
    refine ⟨fun w2 => ?_, fun _ => j131⟩
    exfalso
    rw [i_le, iz_toInt ⟨by omega, by omega⟩, val_int hA hv (by omega)] at w2
    have := m4 (gr - 1) (by omega) (by omega)
    omega
  refine ⟨fun w => ?_, fun _ => ⟨fun w => ?_, fun _ => ⟨fun w => absurd (val_at hA hv (by omega)) w, fun _ => ⟨fun w => j107 _ _ ?_, fun w => j107 _ _ ?_⟩⟩⟩⟩
  · have := (nI_ltI (by omega) (by omega)).mp w
    omega
  · have := (nI_ltI (by omega) (by omega)).mp w
    omega
  · exact (val_out hA hv).2 (fun e => w (by rw [e]; rfl))
  · exact (val_out hA hv).1 ((nI_eq (b := 8000) (by omega) (by decide)).mp w)
end
