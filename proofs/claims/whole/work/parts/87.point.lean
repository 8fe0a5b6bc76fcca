/-! point -/
def insI (i : Nat) (x : Int32) (f : Nat → Int32) : Nat → Int32 := fun k => if k < i then f k else if k = i then x else f (k - 1)
def updF (f : Nat → Nat → Int32) (v : Nat) (g : Nat → Int32) : Nat → Nat → Int32 := fun j => if j = v then g else f j
theorem insI_lt {i k : Nat} {x : Int32} {f : Nat → Int32} (h : k < i) : insI i x f k = f k := if_pos h
theorem insI_eq {i : Nat} {x : Int32} {f : Nat → Int32} : insI i x f i = x := by unfold insI; rw [if_neg (by omega), if_pos rfl]
theorem insI_gt {i k : Nat} {x : Int32} {f : Nat → Int32} (h : i < k) : insI i x f k = f (k - 1) := by unfold insI; rw [if_neg (by omega), if_neg (by omega)]
theorem HOK_ins {c : Nat → Nat} {T V : Nat → Nat → Int32} {v : Nat} {t x : Int32} (hO : HOK c T V) (hv : v < 3) (hc : c v < 6) (ht : -10000 ≤ t.toInt ∧ t.toInt ≤ 0) (hx : -1000000 ≤ x.toInt ∧ x.toInt ≤ 1000000) (hn : ∀ k, k < c v → T v k ≠ t) : HOK (updT c v (c v + 1)) (updF T v (insI (upT (T v) t (c v)) t (T v))) (updF V v (insI (upT (T v) t (c v)) x (V v))) := by
  obtain ⟨u1, u2, u3⟩ := upT_ok (T v) t (c v)
  generalize upT (T v) t (c v) = u at u1 u2 u3
  intro e he
  unfold updT updF
  by_cases q : e = v
  · subst q
    rw [if_pos rfl, if_pos rfl, if_pos rfl]
    refine ⟨by omega, fun k hk => ?_, fun k hk => ?_⟩
    · by_cases k1 : k < u
      · rw [insI_lt k1, insI_lt k1]; exact (hO e he).2.1 k (by omega)
      · by_cases k2 : k = u
        · subst k2; rw [insI_eq, insI_eq]; omega
        · rw [insI_gt (by omega), insI_gt (by omega)]; exact (hO e he).2.1 (k - 1) (by omega)
    · by_cases k1 : k + 1 < u
      · rw [insI_lt k1, insI_lt (by omega)]; exact (hO e he).2.2 k (by omega)
      · by_cases k2 : k + 1 = u
        · subst k2
          rw [insI_eq, insI_lt (by omega)]
          have h1 := u2 k (by omega)
          have h2 := hn k (by omega)
          rw [i_lt] at h1 ⊢
          rw [ne_eq, i_eq] at h2
          omega
        · by_cases k3 : k = u
          · subst k3
            rw [insI_eq, insI_gt (by omega)]
            exact u3 (by omega)
          · rw [insI_gt (by omega), insI_gt (by omega)]
            have := (hO e he).2.2 (k - 1) (by omega)
            rw [show k - 1 + 1 = k + 1 - 1 by omega] at this
            exact this
  · rw [if_neg q, if_neg q, if_neg q]; exact hO e he
/-- the class: is there a point at this time -/
theorem n_hasPoint {s : RT} {c : Nat → Nat} {T V : Nat → Nat → Int32} {v : Nat} {t : Int32} {K : Int32 → Prop} (hX : HX s c T V) (hO : HOK c T V) (hv : v < 3) (h1 : (∃ k, k < c v ∧ T v k = t) → K 1) (h0 : (∀ k, k < c v → T v k ≠ t) → K 0) : wp_X1_hasPointAt s (nI v) t K := by
  have h6 := (hO v hv).1
  obtain ⟨u1, u2, u3⟩ := upT_ok (T v) t (c v)
  refine n_up hX hO hv ?_
  generalize upT (T v) t (c v) = u at u1 u2 u3
  have no : (0 < u → T v (u - 1) ≠ t) → ∀ k, k < c v → T v k ≠ t := by
    intro hu k hk e
    by_cases k1 : k < u
    · by_cases k2 : k = u - 1
      · subst k2; exact hu (by omega) e
      · have h2 := HOK_mono hO hv (show k < u - 1 by omega) (by omega)
        have h3 := u2 (u - 1) (by omega)
        rw [i_lt] at h3
        rw [e] at h2
        omega
    · have h2 := u3 (by omega)
      rw [i_lt] at h2
      by_cases k2 : k = u
      · subst k2; rw [e] at h2; omega
      · have h3 := HOK_mono hO hv (show u < k by omega) hk
        rw [e] at h3
        omega
  refine ⟨fun q => ?_, fun q => ?_⟩
  · have := (nI_leI (b := 0) (by omega) (by decide)).mp q
    exact h0 (no (fun w => by omega))
  · have hu : 0 < u := by
      rcases Nat.eq_zero_or_pos u with w | w
      · exact absurd (by rw [w]; exact nI_le (Nat.le_refl 0) (by decide)) q
      · exact w
    have e1 : nI v * 6 + nI u - 1 = nI (v * 6 + (u - 1)) := by
      rw [ix6, p1 (by omega)]; congr 1; omega
    rw [e1]
    refine n_pick (by decide) ?_
    rw [pk_n (by decide) (by omega), ((hX v hv).2 (u - 1) (by omega)).1]
    exact ⟨fun w => h0 (no (fun _ => w)), fun w => h1 ⟨u - 1, by omega, w⟩⟩
theorem n_addP {s : RT} {c : Nat → Nat} {T V : Nat → Nat → Int32} {v : Nat} {t x : Int32} {K : RT → Prop} (hX : HX s c T V) (hO : HOK c T V) (hv : v < 3) (hc : c v < 6) (h : ∀ s', HX s' (updT c v (c v + 1)) (updF T v (insI (upT (T v) t (c v)) t (T v))) (updF V v (insI (upT (T v) t (c v)) x (V v))) → (∀ k, k ≠ 9 → k ≠ 10 → k ≠ 11 → s'.1 k = s.1 k) → K s') : wp_X1_add s (nI v) t x K := by
  obtain ⟨u1, u2, u3⟩ := upT_ok (T v) t (c v)
  refine n_pick (by decide) ?_
  rw [pk_n (by decide) hv, (hX v hv).1]
  refine ⟨fun _ x3 e3 => ?_, fun q => absurd ((nI_ltI (b := 6) (by omega) (by decide)).mpr hc) q⟩
  have e3' : x3 = nI (v * 6) := by rw [e3, show (6 : Int32) = nI 6 from rfl, pk_mul]
  subst e3'
  refine n_up hX hO hv (fun x5 e5 => ?_)
  generalize upT (T v) t (c v) = u at h u1 u2 u3 e5
  rw [nI_add] at e5
  subst e5
  rw [nI_add]
  refine n_makeRoom (by decide) (by omega) (by omega) ?_
  intro s7 h7
  refine n_makeRoom (by decide) (by omega) (by omega) ?_
  intro s9 h9
  refine n_put (by decide) ?_
  rw [pt_n (by decide) (by omega)]
  intro s11 h11
  refine n_put (by decide) ?_
  rw [pt_n (by decide) (by omega)]
  intro s13 h13
  refine n_put (by decide) ?_
  rw [pt_n (by decide) hv]
  intro s15 h15
  have f10 : s15.1 10 = upd (mkroom (s.1 10) (v * 6 + u) (v * 6 + c v)) (v * 6 + u) t := by
    rw [h15, h13, h11, h9, h7]; rfl
  have f11 : s15.1 11 = upd (mkroom (s.1 11) (v * 6 + u) (v * 6 + c v)) (v * 6 + u) x := by
    rw [h15, h13, h11, h9, h7]; rfl
  have f9 : s15.1 9 = upd (s.1 9) v (nI (c v + 1)) := by
    rw [h15, h13, h11, h9, h7]
    show upd (s.1 9) v (nI (c v) + 1) = _
    rw [nI_1]
  have fo : ∀ k, k ≠ 9 → k ≠ 10 → k ≠ 11 → s15.1 k = s.1 k := by
    intro k k9 k10 k11
    rw [h15, h13, h11, h9, h7]
    show (if k = 9 then _ else if k = 11 then _ else if k = 10 then _ else if k = 11 then _ else if k = 10 then _ else s.1 k) = s.1 k
    rw [if_neg k9, if_neg k11, if_neg k10, if_neg k11, if_neg k10]
  refine h s15 (fun e he => ?_) fo
  rw [f9, f10, f11]
  have he6 := (hO e he).1
  unfold updT updF
  by_cases q : e = v
  · subst q
    rw [if_pos rfl, if_pos rfl, if_pos rfl, pk_us]
    refine ⟨rfl, fun k hk => ?_⟩
    by_cases k1 : k < u
    · rw [insI_lt k1, insI_lt k1, pk_un (by omega), pk_un (by omega)]
      unfold mkroom
      rw [if_neg (by omega), if_neg (by omega)]
      exact (hX e he).2 k (by omega)
    · by_cases k2 : k = u
      · subst k2; rw [insI_eq, insI_eq, pk_us, pk_us]; exact ⟨rfl, rfl⟩
      · rw [insI_gt (by omega), insI_gt (by omega), pk_un (by omega), pk_un (by omega)]
        unfold mkroom
        rw [if_pos (by omega), if_pos (by omega), show e * 6 + k - 1 = e * 6 + (k - 1) by omega]
        exact (hX e he).2 (k - 1) (by omega)
  · rw [if_neg q, if_neg q, if_neg q, pk_un q]
    refine ⟨(hX e he).1, fun k hk => ?_⟩
    rw [pk_un (by omega), pk_un (by omega)]
    unfold mkroom
    rw [if_neg (by omega), if_neg (by omega)]
    exact (hX e he).2 k hk
theorem PT_point_ok : PT_point Inv := by
  intro j t c r p ct kp kr sl sr m a0 a1 a2 hj h
  have h' := Inv_s h
  obtain ⟨⟨L, len, hT⟩, ⟨G, hG⟩, ⟨cn, k1, k2, k3⟩, k4, k5, k6⟩ := h
  refine n_isVariable ⟨fun z => n_isThree ⟨fun _ => ⟨rfl, h'⟩, fun w => absurd z w⟩, fun z => n_isWithin ⟨fun y => n_isThree ⟨fun w => absurd w z, fun _ => n_within ⟨fun _ => ⟨rfl, h'⟩, fun w => absurd y w⟩⟩, fun y => n_isWithin ⟨fun x => ?_, fun x => n_isThree ⟨fun w => absurd w z, fun _ => n_within ⟨fun w => absurd w y, fun _ => n_within ⟨fun w => absurd x w, fun _ => ⟨rfl, h'⟩⟩⟩⟩⟩⟩⟩
  obtain ⟨v, hv, rfl⟩ := wi02 (b2_1.mp z)
  have hb1 := wi_eq.mp (b2_1.mp y)
  have hb2 := wi_eq.mp (b2_1.mp x)
  have e0 : (0 : Int32).toInt = 0 := by decide
  have e1 : (-10000 : Int32).toInt = -10000 := by decide
  have e2 : (1000000 : Int32).toInt = 1000000 := by decide
  have e3 : (-1000000 : Int32).toInt = -1000000 := by decide
  obtain ⟨hS1, hS2, hS3, hS4, hS5⟩ := hG.2.1.1
  obtain ⟨hR1, hR2, hR3, hR4, hR5⟩ := hG.2.2.1.1
  have hP := hG.1.1
  have hO := hP.2.2.1
  have h6 := (hO v hv).1
  obtain ⟨u1, u2, u3⟩ := upT_ok (bT (qP G) v) a1 (bh (qP G) v)
  obtain ⟨u, hu⟩ : ∃ u, upT (bT (qP G) v) a1 (bh (qP G) v) = u := ⟨_, rfl⟩
  rw [hu] at u1 u2 u3
  -- the reference's scan
  have ref : ∀ KM : Int32 → RT → Prop, ((∃ k, k < bh (qP G) v ∧ bT (qP G) v k = a1) → KM (-2000000002) m) → ((∀ k, k < bh (qP G) v → bT (qP G) v k ≠ a1) → (bh (qP G) v = 6 → KM (-2000000003) m) ∧ (bh (qP G) v ≠ 6 → wp_X10_saves m (fun s11 => ∃ q : Nat, lp_X10_point_131 (nI v) a1 a2 KM q (nI (bh (qP G) v)) (nI u) (nI (bh (qP G) v)) s11))) → wp_X10_point m (nI v) a1 a2 KM := by
    intro KM hyes hno
    refine n_isThree ⟨fun w => absurd w z, fun _ => n_within ⟨fun w => absurd w y, fun _ => n_within ⟨fun _ => n_points hR4 hv ⟨bh (qP G) v + 1, ?_⟩, fun w => absurd w x⟩⟩⟩
    have key : ∀ (f k pl : Nat) (b : Bool), f + k = bh (qP G) v + 1 → k ≤ bh (qP G) v → pl ≤ k → (b = true ↔ ∃ i, i < k ∧ bT (qP G) v i = a1) → ((∀ i, i < bh (qP G) v → bT (qP G) v i ≠ a1) → pl = min k u) → lp_X10_point_48 (nI v) a1 a2 KM f (nI (bh (qP G) v)) (nI pl) (b2 b) (nI k) m := by
      intro f
      induction f with
      | zero => intro k pl b c1 c2; omega
      | succ f ih =>
        intro k pl b c1 c2 c3 c4 c5
        refine ⟨fun q => ?_, fun q => ?_⟩
        · have hk : k = bh (qP G) v := by have := (nI_leI (by omega) (by omega)).mp q; omega
          refine ⟨fun w => ?_, fun w => ?_⟩
          · have hb := b2_0.mp w
            have hn : ∀ i, i < bh (qP G) v → bT (qP G) v i ≠ a1 := fun i hi e => by
              have := c4.mpr ⟨i, by omega, e⟩
              rw [hb] at this
              exact absurd this (by decide)
            have hpl := c5 hn
            have epl : pl = u := by omega
            refine ⟨fun w2 => ?_, fun w2 => (hno hn).1 ((nI_eq (b := 6) (by omega) (by decide)).mp w2)⟩
            rw [epl]
            exact (hno hn).2 (fun w3 => w2 (by rw [w3]; rfl))
          · obtain ⟨i, i1, i2⟩ := c4.mp (b2_1.mp w)
            exact hyes ⟨i, by omega, i2⟩
        · have hk : k < bh (qP G) v := by
            rcases Nat.lt_or_ge k (bh (qP G) v) with w | w
            · exact w
            · exact absurd (nI_le w (by omega)) q
          have nk : nI k + 1 = nI (k + 1) := nI_1 k
          have tm : ∀ K : Int32 → Prop, K (bT (qP G) v k) → wp_X10_pointTime m (nI v) (nI k) K := fun K hK => n_ptime hR4 hO hv hk hK
          have j73 : ∀ (pl2 : Nat) (t0 : Int32), nI pl + t0 = nI pl2 → pl2 ≤ k + 1 → ((∀ i, i < bh (qP G) v → bT (qP G) v i ≠ a1) → pl2 = min (k + 1) u) → jp_X10_point_73 (nI v) a1 a2 KM (fun v0 v1 v2 v3 v4 => lp_X10_point_48 (nI v) a1 a2 KM f v0 v1 v2 v3 v4) (nI (bh (qP G) v)) (b2 b) (nI k) t0 (nI pl) m := by
            intro pl2 t0 d1 d2 d3 x24 h24
            rw [d1] at h24
            subst h24
            have yes : (∃ i, i < k + 1 ∧ bT (qP G) v i = a1) → jp_X10_point_92 (nI v) a1 a2 KM (fun v0 v1 v2 v3 v4 => lp_X10_point_48 (nI v) a1 a2 KM f v0 v1 v2 v3 v4) (nI (bh (qP G) v)) (nI pl2) (nI k) m := by
              intro hy x26 h26
              rw [nk] at h26
              subst h26
              exact ih (k + 1) pl2 true (by omega) (by omega) d2 ⟨fun _ => hy, fun _ => rfl⟩ d3
            refine ⟨fun w => yes ?_, fun w => tm _ ⟨fun w2 x29 h29 => ?_, fun w2 => yes ⟨k, by omega, w2⟩⟩⟩
            · obtain ⟨i, i1, i2⟩ := c4.mp (b2_1.mp w)
              exact ⟨i, by omega, i2⟩
            · rw [nk] at h29
              subst h29
              refine ih (k + 1) pl2 false (by omega) (by omega) d2 ⟨fun w3 => absurd w3 (by decide), fun ⟨i, i1, i2⟩ => ?_⟩ d3
              by_cases e : i = k
              · subst e; exact absurd i2 w2
              · have := c4.mpr ⟨i, by omega, i2⟩
                rw [b2_0.mp w] at this
                exact this
          refine tm _ ⟨fun w => j73 pl 0 (Int32.add_zero _) (by omega) (fun hn => ?_), fun w => j73 (pl + 1) 1 (nI_1 pl) (by omega) (fun hn => ?_)⟩
          · have h5 := c5 hn
            have : u ≤ k := by
              rcases Nat.lt_or_ge k u with w2 | w2
              · have h1 := u2 k w2
                have h2 := hn k hk
                rw [i_lt] at h1
                rw [i_le] at w
                rw [ne_eq, i_eq] at h2
                omega
              · exact w2
            omega
          · have h5 := c5 hn
            have : k < u := by
              rcases Nat.lt_or_ge k u with w2 | w2
              · exact w2
              · exfalso
                have h1 := u3 (by omega)
                rw [i_lt] at h1
                rw [i_le] at w
                by_cases e : k = u
                · rw [← e] at h1; omega
                · have := HOK_mono hO hv (show u < k by omega) hk
                  omega
            omega
    exact key (bh (qP G) v + 1) 0 0 false rfl (by omega) (by omega) ⟨fun w => absurd w (by decide), fun ⟨i, i1, _⟩ => by omega⟩ (fun _ => by omega)
  refine n_hasPoint hS4 hO hv (fun hyes => ⟨fun w => absurd w (by decide), fun _ => ref _ (fun _ => ⟨rfl, h'⟩) (fun hn => ?_)⟩) (fun hno => ⟨fun _ => ?_, fun w => absurd rfl w⟩)
  · obtain ⟨k, q1, q2⟩ := hyes
    exact absurd q2 (hn k q1)
  refine n_pick (by decide) ?_
  rw [pk_n (by decide) hv, (hS4 v hv).1]
  refine ⟨fun q => ?_, fun q => ref _ (fun ⟨k, q1, q2⟩ => absurd q2 (hno k q1)) (fun _ => ⟨fun _ => ⟨rfl, h'⟩, fun w => ?_⟩)⟩
  · have hc : bh (qP G) v < 6 := (nI_ltI (b := 6) (by omega) (by decide)).mp q
    refine n_record hG.1 hG.2.1 k1 k3 (fun ct2 kp2 kr2 hRc => n_addP hS4 hO hv hc (fun s15 hX15 fo => ?_))
    rw [hu] at hX15
    let P' : PB := ((bL (qP G), bl (qP G)), (bc (qP G), bp (qP G)), (updT (bh (qP G)) v (bh (qP G) v + 1), updF (bT (qP G)) v (insI u a1 (bT (qP G) v)), updF (bV (qP G)) v (insI u a2 (bV (qP G) v))), (bS (qP G), bR (qP G), bO (qP G)))
    have hP' : POKp P' := by
      have hh := HOK_ins (t := a1) (x := a2) hO hv hc (by omega) (by omega) hno
      rw [hu] at hh
      exact ⟨hP.1, hP.2.1, hh, hP.2.2.2⟩
    have hS' : SXp s15 P' := by
      refine ⟨fun w hw => ?_, fun e he => by rw [fo 6 (by decide) (by decide) (by decide)]; exact hS2 e he, fun e he => by rw [fo 7 (by decide) (by decide) (by decide)]; exact hS3 e he, hX15, by rw [fo 12 (by decide) (by decide) (by decide)]; exact hS5⟩
      have := hS1 w hw
      unfold CDX at this ⊢
      rw [fo 3 (by decide) (by decide) (by decide), fo 2 (by decide) (by decide) (by decide), fo 4 (by decide) (by decide) (by decide)]
      exact this
    have hZ' : Z0 s15 := by
      have := SxG_Z0 hG.1 hG.2.1
      unfold Z0 at this ⊢
      rw [fo 14 (by decide) (by decide) (by decide), fo 15 (by decide) (by decide) (by decide), fo 16 (by decide) (by decide) (by decide), fo 18 (by decide) (by decide) (by decide)]
      exact this
    refine n_change p hG k3 k4 k5 k6 hRc hP' hS' hZ' (fun s' hs' _ anew => n_pick (by decide) ?_)
    have hcnt : s'.1 9 v = nI (bh (qP G) v + 1) := by
      rw [(hs'.2.2.2.1 v hv).1]
      show nI (updT (bh (qP G)) v (bh (qP G) v + 1) v) = _
      unfold updT
      rw [if_pos rfl]
    rw [pk_n (by decide) hv, hcnt]
    refine ref _ (fun ⟨k, q1, q2⟩ => absurd q2 (hno k q1)) (fun _ => ⟨fun w => by omega, fun _ => n_saves k3.1 k2 (fun y1 hM => ⟨bh (qP G) v + 1 - u, ?_⟩)⟩)
    have y11 : y1.1 1 = m.1 1 := hM.1.1 1 (by decide)
    have key : ∀ (f k : Nat) (y2 : RT), f + u = k + 1 → u ≤ k → k ≤ bh (qP G) v → (∀ q, q ≠ 1 → y2.1 q = y1.1 q) → y2.2 = y1.2 → (∀ q, ¬ (10 + 13 * v + k < q ∧ q ≤ 10 + 13 * v + bh (qP G) v) → ¬ (16 + 13 * v + k < q ∧ q ≤ 16 + 13 * v + bh (qP G) v) → y2.1 1 q = m.1 1 q) → (∀ i, k < i → i ≤ bh (qP G) v → y2.1 1 (10 + 13 * v + i) = bT (qP G) v (i - 1) ∧ y2.1 1 (16 + 13 * v + i) = bV (qP G) v (i - 1)) → lp_X10_point_131 (nI v) a1 a2 (fun v2 m2 => nI (bh (qP G) v + 1) = v2 ∧ Inv (j + 1) t s' r p ct2 kp2 kr2 sl sr m2) f (nI (bh (qP G) v)) (nI u) (nI k) y2 := by
      intro f
      induction f with
      | zero => intro k y2 d1 d2; omega
      | succ f ih =>
        intro k y2 d1 d2 d3 d4 d5 d6 d7
        refine ⟨fun q => ?_, fun q => ?_⟩
        · have hk : u = k := by have := (nI_leI (by omega) (by omega)).mp q; omega
          subst hk
          rw [ixM1, ixM7, ixM0, nI_clamp (by omega), nI_clamp (by omega), nI_clamp (by omega), nI_1]
          refine ⟨vp_in_nI (by omega) (by decide), fun s13 h13 => ⟨vp_in_nI (by omega) (by decide), fun s14 h14 => ⟨vp_in_nI (by omega) (by decide), fun s15' h15' => ?_⟩⟩⟩
          have g1 : s15'.1 1 = upd (upd (upd (y2.1 1) (10 + 13 * v + u) a1) (16 + 13 * v + u) a2) (9 + 13 * v) (nI (bh (qP G) v + 1)) := by rw [h15', h14, h13]; rfl
          refine anew y1 s15' t L len _ hM (fun q hq => ?_) (fun q _ => by rw [h15', h14, h13]; show y2.2.2 q = _; rw [d5]) ?_ (txt_k hT ?_ ?_) (fun y3 _ hI => ⟨rfl, hI⟩)
          · rw [h15', h14, h13]
            show (if q = 1 then _ else if q = 1 then _ else if q = 1 then _ else y2.1 q) = _
            rw [if_neg hq, if_neg hq, if_neg hq]
            exact d4 q hq
          · rw [g1]
            have un : ∀ q, q ≠ 9 + 13 * v → q ≠ 10 + 13 * v + u → q ≠ 16 + 13 * v + u → ¬ (10 + 13 * v + u < q ∧ q ≤ 10 + 13 * v + bh (qP G) v) → ¬ (16 + 13 * v + u < q ∧ q ≤ 16 + 13 * v + bh (qP G) v) → upd (upd (upd (y2.1 1) (10 + 13 * v + u) a1) (16 + 13 * v + u) a2) (9 + 13 * v) (nI (bh (qP G) v + 1)) q = m.1 1 q := fun q w1 w2 w3 w4 w5 => by rw [pk_un w1, pk_un w3, pk_un w2]; exact d6 q w4 w5
            refine ⟨fun w hw => ?_, fun e he => ?_, fun e he => ?_, fun e he => ?_, ?_⟩
            · obtain ⟨w1, w2⟩ := hR1 w hw
              exact ⟨by rw [un _ (by omega) (by omega) (by omega) (by omega) (by omega)]; exact w1, fun i hi => by rw [un _ (by omega) (by omega) (by omega) (by omega) (by omega)]; exact w2 i hi⟩
            · rw [un _ (by omega) (by omega) (by omega) (by omega) (by omega)]; exact hR2 e he
            · rw [un _ (by omega) (by omega) (by omega) (by omega) (by omega)]; exact hR3 e he
            · show _ = nI (updT (bh (qP G)) v (bh (qP G) v + 1) e) ∧ ∀ i, i < updT (bh (qP G)) v (bh (qP G) v + 1) e → _ = updF (bT (qP G)) v (insI u a1 (bT (qP G) v)) e i ∧ _ = updF (bV (qP G)) v (insI u a2 (bV (qP G) v)) e i
              have he6 := (hO e he).1
              unfold updT updF
              by_cases q2 : e = v
              · subst q2
                rw [if_pos rfl, if_pos rfl, if_pos rfl, pk_us]
                refine ⟨rfl, fun i hi => ?_⟩
                by_cases i1 : i < u
                · rw [insI_lt i1, insI_lt i1, un _ (by omega) (by omega) (by omega) (by omega) (by omega), un _ (by omega) (by omega) (by omega) (by omega) (by omega)]
                  exact (hR4 e he).2 i (by omega)
                · by_cases i2 : i = u
                  · subst i2
                    rw [insI_eq, insI_eq, pk_un (by omega), pk_un (by omega), pk_us, pk_un (by omega), pk_us]
                    exact ⟨rfl, rfl⟩
                  · rw [insI_gt (by omega), insI_gt (by omega), pk_un (by omega), pk_un (by omega), pk_un (by omega), pk_un (by omega), pk_un (by omega), pk_un (by omega)]
                    exact d7 i (by omega) (by omega)
              · rw [if_neg q2, if_neg q2, if_neg q2]
                obtain ⟨w1, w2⟩ := hR4 e he
                refine ⟨by rw [un _ (by omega) (by omega) (by omega) (by omega) (by omega)]; exact w1, fun i hi => ?_⟩
                rw [un _ (by omega) (by omega) (by omega) (by omega) (by omega), un _ (by omega) (by omega) (by omega) (by omega) (by omega)]
                exact w2 i hi
            · rw [un _ (by omega) (by omega) (by omega) (by omega) (by omega), un _ (by omega) (by omega) (by omega) (by omega) (by omega), un _ (by omega) (by omega) (by omega) (by omega) (by omega)]
              exact hR5
          · rw [h15', h14, h13]
            exact (d4 5 (by decide)).trans (hM.1.1 5 (by decide))
          · rw [h15', h14, h13]
            show y2.2.2 6 = _
            rw [d5]; exact hM.1.2.2 6 (by decide)
        · have hk : u < k := by
            rcases Nat.lt_or_ge u k with w | w
            · exact w
            · exact absurd (nI_le w (by omega)) q
          -- one point is moved up
          have et : y2.1 1 (10 + 13 * v + (k - 1)) = bT (qP G) v (k - 1) := by rw [d6 _ (by omega) (by omega)]; exact ((hR4 v hv).2 (k - 1) (by omega)).1
          have ev : y2.1 1 (16 + 13 * v + (k - 1)) = bV (qP G) v (k - 1) := by rw [d6 _ (by omega) (by omega)]; exact ((hR4 v hv).2 (k - 1) (by omega)).2
          rw [p1 (by omega)]
          unfold wp_X10_pointTime wp_X10_pointValue
          rw [ixM1, ixM1, ixM7, ixM7, nI_clamp (by omega), nI_clamp (by omega), nI_clamp (by omega), nI_clamp (by omega), et]
          refine ⟨vp_in_nI (by omega) (by decide), vp_in_nI (by omega) (by decide), fun s18 h18 => ⟨vp_in_nI (by omega) (by decide), vp_in_nI (by omega) (by decide), fun s20 h20 x21 h21 => ?_⟩⟩
          have e18 : s18.1 1 (16 + 13 * v + (k - 1)) = bV (qP G) v (k - 1) := by
            rw [h18]
            show upd (y2.1 1) _ _ _ = _
            rw [pk_un (by omega)]
            exact ev
          rw [e18] at h20
          have e21 : x21 = nI (k - 1) := by
            rw [h21, show nI k = nI (k - 1 + 1) by rw [Nat.sub_add_cancel (by omega)], pk_m1]
          subst e21
          have g20 : s20.1 1 = upd (upd (y2.1 1) (10 + 13 * v + k) (bT (qP G) v (k - 1))) (16 + 13 * v + k) (bV (qP G) v (k - 1)) := by rw [h20, h18]; rfl
          refine ih (k - 1) s20 (by omega) (by omega) (by omega) (fun q hq => ?_) ?_ (fun q w1 w2 => ?_) (fun i i1 i2 => ?_)
          · rw [h20, h18]
            show (if q = 1 then _ else if q = 1 then _ else y2.1 q) = _
            rw [if_neg hq, if_neg hq]
            exact d4 q hq
          · rw [h20, h18]; exact d5
          · rw [g20, pk_un (by omega), pk_un (by omega)]
            exact d6 q (by omega) (by omega)
          · rw [g20]
            by_cases e : i = k
            · subst e
              rw [pk_un (by omega), pk_us, pk_us]
              exact ⟨rfl, rfl⟩
            · rw [pk_un (by omega), pk_un (by omega), pk_un (by omega), pk_un (by omega)]
              exact d7 i (by omega) i2
    exact key (bh (qP G) v + 1 - u) (bh (qP G) v) y1 (by omega) u1 (Nat.le_refl _) (fun _ _ => rfl) rfl (fun q _ _ => by rw [y11]) (fun i i1 i2 => by omega)
  · have : ¬ bh (qP G) v < 6 := fun w2 => q ((nI_ltI (b := 6) (by omega) (by decide)).mpr w2)
    omega
