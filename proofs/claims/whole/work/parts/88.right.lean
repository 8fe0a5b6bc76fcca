/-! right -/
theorem n_changeG (p : RT) {j cn : Nat} {c r m : RT} {ct2 : Int32} {kp sl kp2 : Nat → Option Nat} {kr sr kr2 : Nat → RT} {G : GH} {s : RT} {P : PB} {K : RT → Prop} (hC : Cur j G c m) (hK : KG j cn kp kr (m.1 2)) (hSl : SlG j sl sr (m.1 4) (m.1 3)) (hr : Z0 r) (h19 : m.2.2 19 = 0) (hX : RcX G cn kr ct2 kp2 kr2) (hP : POKp P) (hS : SXp s P) (hZ : Z0 s)
    (h : ∀ s', SXp s' P → (∀ v, v < 3 → s'.1 4 v = s.1 4 v) → (∀ (m0 y1 y2 t' : RT) (L' : Nat → Nat) (len' : Nat) (KM : RT → Prop), SameG m m0 → RcM cn m0 y1 → (∀ j, j ≠ 1 → y2.1 j = y1.1 j) → (∀ k, k ≠ 6 → y2.2.2 k = y1.2.2 k) → RMp (y2.1 1) P → TxtG t' y2 L' len' → (∀ y3, y3.1 1 = upd (y2.1 1) 291 0 → Inv (j + 1) t' s' r p ct2 kp2 kr2 sl sr y3 → KM y3) → wp_X10_anew y2 KM) → K s') : wp_X6_restart s K := by
  refine n_restartX hP hS hZ (fun s' nb T O D a1 a2 a3 a4 a5 => h s' a1 a5 (fun m0 y1 y2 t' L' len' KM hg hM e1 e2 hR hT hKM => ?_))
  have hC0 := Cur_I hC (SameI_G hg)
  have hK0 : KG j cn kp kr (m0.1 2) := by rw [hg.1 2 (by decide)]; exact hK
  have h0 := hM.1
  have m19 : m0.2.2 19 = 0 := by rw [hg.2]; exact h19
  refine n_anewM hP hR a3 ((e2 19 (by decide)).trans ((h0.2.2 19 (by decide)).trans m19)) (fun y3 b1 b2 b3 b4 b5 b6 b7 => hKM y3 b1 ?_)
  obtain ⟨cn2, c1, c2, c3⟩ := KG_rec hC0.1 hK0 hC0.2.2.1 hX hM
  have f2 : y3.1 2 = y1.1 2 := (b2 2 (by decide) (by decide)).trans (e1 2 (by decide))
  have f3 : y3.1 3 = m.1 3 := (b2 3 (by decide) (by decide)).trans ((e1 3 (by decide)).trans ((h0.1 3 (by decide)).trans (hg.1 3 (by decide))))
  have f4 : y3.1 4 = m.1 4 := (b2 4 (by decide) (by decide)).trans ((e1 4 (by decide)).trans ((h0.1 4 (by decide)).trans (hg.1 4 (by decide))))
  refine ⟨⟨L', len', hT.1, hT.2.1, hT.2.2.1, b4.trans hT.2.2.2.1, fun i hi => by rw [b2 5 (by decide) (by decide)]; exact hT.2.2.2.2 i hi⟩, ⟨(P, (nb, T, O, D), (0, fun _ => 0)), ⟨hP, a3, Nat.zero_le _, by show 0 ≤ 512; omega, fun k hk => absurd hk (Nat.not_lt_zero k)⟩, ⟨a1, a2, a4⟩, ⟨RMp_congr hP hR (fun q hq => by rw [b1, pk_un (by omega)]), by rw [b1, pk_us]; rfl, fun k hk => absurd hk (Nat.not_lt_zero k)⟩, b6, b7⟩, ⟨cn2, c1, b3.trans ((e2 2 (by decide)).trans c2), by rw [f2]; exact KG_mono c3 (by omega)⟩, ?_, hr, b5⟩
  rw [f3, f4]
  exact SlG_mono hSl (by omega)
theorem CodeX_shift {f f' : Nat → Int32} : ∀ {c : List (Nat × Nat)} {b b' : Nat}, (∀ j, j < c.length → f' (b' + j) = f (b + j)) → CodeX f b c → CodeX f' b' c := by
  intro c
  induction c with
  | nil => intro b b' _ _; trivial
  | cons e r ih =>
    intro b b' h k
    simp only [List.length_cons] at h
    refine ⟨?_, ih (b := b + 1) (b' := b' + 1) (fun j hj => ?_) k.2⟩
    · have := h 0 (by omega)
      rw [Nat.add_zero, Nat.add_zero] at this
      rw [this]; exact k.1
    · have := h (j + 1) (by omega)
      rw [show b' + 1 + j = b' + (j + 1) by omega, show b + 1 + j = b + (j + 1) by omega]
      exact this
def updL (f : Nat → Nat → Nat) (v : Nat) (L : Nat → Nat) : Nat → Nat → Nat := fun j => if j = v then L else f j
theorem n_take {t s : RT} {v : Nat} {K : RT → Prop} (hv : v < 3) (h : ∀ s', (∀ k, k ≠ 2 → k ≠ 3 → k ≠ 4 → s'.1 k = s.1 k) → s'.1 3 = upd (s.1 3) v (t.2.2 4) → s'.1 4 = upd (s.1 4) v (t.2.2 5) → (∀ i, i < 80 → s'.1 2 (v * 80 + i) = t.1 2 i) → (∀ q, q < v * 80 ∨ v * 80 + 80 ≤ q → s'.1 2 q = s.1 2 q) → K s') : wp_X5_take t s (nI v) K := by
  refine n_put (by decide) ?_
  rw [pt_n (by decide) hv]
  intro s2 h2
  refine n_put (by decide) ?_
  rw [pt_n (by decide) hv]
  intro s4 h4
  have key : ∀ (f k : Nat) (y : RT), f + k = 81 → k ≤ 80 → (∀ q, q ≠ 2 → y.1 q = s4.1 q) → (∀ i, i < k → y.1 2 (v * 80 + i) = t.1 2 i) → (∀ q, q < v * 80 ∨ v * 80 + 80 ≤ q → y.1 2 q = s.1 2 q) → lp_X5_take_31 t (nI v) K f (nI k) y := by
    intro f
    induction f with
    | zero => intro k y a b; omega
    | succ f ih =>
      intro k y a b c1 c2 c3
      refine ⟨fun q => ?_, fun q => ?_⟩
      · have := (nI_leI (a := 80) (by decide) (by omega)).mp q
        refine h y (fun k q2 q3 q4 => ?_) ?_ ?_ (fun i hi => c2 i (by omega)) c3
        · rw [c1 k q2, h4, h2]
          show (if k = 4 then _ else if k = 3 then _ else s.1 k) = s.1 k
          rw [if_neg q4, if_neg q3]
        · rw [c1 3 (by decide), h4, h2]; rfl
        · rw [c1 4 (by decide), h4, h2]; rfl
      · have hk : k < 80 := by
          rcases Nat.lt_or_ge k 80 with w | w
          · exact w
          · exact absurd (nI_le w (by omega)) q
        rw [show nI v * 80 + nI k = nI (v * 80 + k) by rw [show (80 : Int32) = nI 80 from rfl, pk_mul, nI_add]]
        refine n_pick (by decide) (n_put (by decide) ?_)
        rw [pk_n (by decide) hk, pt_n (by decide) (by omega)]
        intro s8 h8 x9 h9
        have e9 : x9 = nI (k + 1) := h9.trans (nI_1 k)
        subst h8; subst e9
        refine ih (k + 1) _ (by omega) (by omega) (fun q hq => ?_) (fun i hi => ?_) (fun q hq => ?_)
        · show (if q = 2 then _ else y.1 q) = _
          rw [if_neg hq]; exact c1 q hq
        · show upd (y.1 2) (v * 80 + k) (t.1 2 k) (v * 80 + i) = _
          by_cases e : i = k
          · subst e; exact pk_us
          · rw [pk_un (by omega)]; exact c2 i (by omega)
        · show upd (y.1 2) (v * 80 + k) (t.1 2 k) q = _
          rw [pk_un (by omega)]; exact c3 q hq
  exact ⟨81, key 81 0 s4 rfl (by decide) (fun _ _ => rfl) (fun i hi => by omega) (fun q _ => by rw [h4, h2]; rfl)⟩
theorem PT_right_ok : PT_right Inv := by
  intro j t c r p ct kp kr sl sr m a0 hj h
  have h' := Inv_s h
  have hI := h
  obtain ⟨⟨L, len, hT⟩, ⟨G, hG⟩, ⟨cn, k1, k2, k3⟩, k4, k5, k6⟩ := h
  obtain ⟨hL, ht1, ht2, hMT⟩ := hT
  have h80 := hL.1
  have hpb := sum_pb hL 6 0 (by omega)
  refine n_isVariable ⟨fun z => ?_, fun z => n_isThree ⟨fun w => absurd z w, fun _ => ⟨rfl, h'⟩⟩⟩
  obtain ⟨v, hv, rfl⟩ := wi02 (b2_1.mp z)
  refine n_read hL ht1 ht2 (fun q1 q2 s4 hs => ⟨fun _ => ?_, fun w => absurd rfl w⟩) (fun q s4 hs => ⟨fun w => ?_, fun _ => n_isThree ⟨fun _ => n_faultOf hL hMT (fun w1 w2 => absurd ⟨w1, w2⟩ q) (fun _ y0 hg => ⟨fun w => ?_, fun _ => ⟨rfl, ?_⟩⟩), fun w => absurd w z⟩⟩) (by omega)
  · obtain ⟨hS1, hS2, hS3, hS4, hS5⟩ := hG.2.1.1
    obtain ⟨hR1, hR2, hR3, hR4, hR5⟩ := hG.2.2.1.1
    have hP := hG.1.1
    have htx : TxOK L len := ⟨hL, q1, q2⟩
    refine n_record hG.1 hG.2.1 k1 k3 (fun ct2 kp2 kr2 hRc => n_take hv (fun s11 fo f3 f4 f2 f2' => ?_))
    let P' : PB := ((updL (bL (qP G)) v L, updT (bl (qP G)) v len), (bc (qP G), bp (qP G)), (bh (qP G), bT (qP G), bV (qP G)), (bS (qP G), bR (qP G), bO (qP G)))
    have bLv : bL P' v = L := if_pos rfl
    have blv : bl P' v = len := if_pos rfl
    have bLo : ∀ u, u ≠ v → bL P' u = bL (qP G) u := fun u hu => if_neg hu
    have blo : ∀ u, u ≠ v → bl P' u = bl (qP G) u := fun u hu => if_neg hu
    have hP' : POKp P' := by
      refine ⟨fun u hu => ?_, hP.2⟩
      by_cases e : u = v
      · subst e; rw [bLv, blv]; exact htx
      · rw [bLo u e, blo u e]; exact hP.1 u hu
    have hcl := tx_len htx
    have hS' : SXp s11 P' := by
      refine ⟨fun u hu => ?_, fun e he => by rw [fo 6 (by decide) (by decide) (by decide)]; exact hS2 e he, fun e he => by rw [fo 7 (by decide) (by decide) (by decide)]; exact hS3 e he, fun u hu => ?_, by rw [fo 12 (by decide) (by decide) (by decide)]; exact hS5⟩
      · unfold CDX cd
        rw [f3, f4]
        by_cases e : u = v
        · subst e
          rw [bLv, pk_us, pk_us]
          refine ⟨Or.inl ⟨hs.2.2.1, CodeX_shift (b := 0) (fun i hi => ?_) hs.2.1⟩, hs.2.2.2⟩
          rw [Nat.zero_add]
          exact f2 i (by omega)
        · rw [bLo u e, pk_un e, pk_un e]
          obtain ⟨w1, w2⟩ := hS1 u hu
          refine ⟨w1.elim (fun w => Or.inl ⟨w.1, CodeX_congr (fun i i1 i2 => f2' i ?_) w.2⟩) Or.inr, w2⟩
          have := tx_len (hP.1 u hu)
          have : (cd (qP G) u).length ≤ 80 := this
          have : i < u * 80 + (cd (qP G) u).length := i2
          omega
      · rw [fo 9 (by decide) (by decide) (by decide), fo 10 (by decide) (by decide) (by decide), fo 11 (by decide) (by decide) (by decide)]
        exact hS4 u hu
    have hZ' : Z0 s11 := by
      have := SxG_Z0 hG.1 hG.2.1
      unfold Z0 at this ⊢
      rw [fo 14 (by decide) (by decide) (by decide), fo 15 (by decide) (by decide) (by decide), fo 16 (by decide) (by decide) (by decide), fo 18 (by decide) (by decide) (by decide)]
      exact this
    refine n_changeG p hG k3 k4 k5 k6 hRc hP' hS' hZ' (fun s' hs' h4' anew => ?_)
    intro s15 h15
    refine n_pick (by decide) ?_
    rw [pk_n (by decide) hv, h4' v hv, f4, pk_us, hs.2.2.2, obI_N (tx_opB htx)]
    refine n_delaysIn (obN_lt (tx_opB htx)) (fun w hw hu => n_isThree ⟨fun _ => ?_, fun w => absurd w z⟩)
    refine n_faultOf hL hMT (fun _ _ y0 hg => ⟨fun _ => ?_, fun w => absurd rfl w⟩) (fun w => absurd ⟨q1, q2⟩ w)
    have e2 : y0.2.2 2 = nI cn := by rw [hg.2]; exact k2
    refine n_saves k3.1 e2 (fun y1 hM => ?_)
    have y11 : y1.1 1 = m.1 1 := (hM.1.1 1 (by decide)).trans (hg.1 1 (by decide))
    have y15 : y1.1 5 = m.1 5 := (hM.1.1 5 (by decide)).trans (hg.1 5 (by decide))
    have y16 : y1.2.2 6 = nI len := (hM.1.2.2 6 (by decide)).trans (by rw [hg.2]; exact hMT.1)
    rw [ixR0, nI_clamp (by omega)]
    refine ⟨vp_in_nI (by omega) (by decide), fun s7 h7 => ⟨81, ?_⟩⟩
    have s71 : s7.1 1 = upd (m.1 1) (48 + 81 * v) (nI len) := by
      rw [h7, ← y11, ← y16]; rfl
    have key : ∀ (f k : Nat) (y : RT), f + k = 81 → k ≤ 80 → (∀ q, q ≠ 1 → y.1 q = y1.1 q) → y.2 = y1.2 → (∀ i, i < k → i < len → y.1 1 (49 + 81 * v + i) = nI (L i)) → (∀ q, q < 49 + 81 * v ∨ 49 + 81 * v + 80 ≤ q → y.1 1 q = s7.1 1 q) → lp_X10_right_44 (nI v) (fun v2 m2 => nI w = v2 ∧ Inv (j + 1) s15 s' r p ct2 kp2 kr2 sl sr m2) f (nI k) y := by
      intro f
      induction f with
      | zero => intro k y a b; omega
      | succ f ih =>
        intro k y a b c1 c2 c3 c4
        refine ⟨fun q s9 h9 => ?_, fun q => ?_⟩
        · have hk := (nI_leI (a := 80) (by decide) (by omega)).mp q
          have s91 : s9.1 1 = y.1 1 := by rw [h9]; rfl
          have tx9 : TX (y.1 1) v L len := ⟨by rw [c4 _ (by omega), s71, pk_us], fun i hi => c3 i (by omega) hi⟩
          have hR' : RMp (s9.1 1) P' := by
            rw [s91]
            have un : ∀ q, q ≠ 48 + 81 * v → q < 49 + 81 * v ∨ 49 + 81 * v + 80 ≤ q → y.1 1 q = m.1 1 q := fun q w1 w2 => by rw [c4 q w2, s71, pk_un w1]
            refine ⟨fun u hu => ?_, fun e he => ?_, fun e he => ?_, fun u hu => ?_, ?_⟩
            · by_cases e : u = v
              · subst e; rw [bLv, blv]; exact tx9
              · rw [bLo u e, blo u e]
                have hu80 := (hP.1 u hu).1.1
                obtain ⟨w1, w2⟩ := hR1 u hu
                exact ⟨by rw [un _ (by omega) (by omega)]; exact w1, fun i hi => by rw [un _ (by omega) (by omega)]; exact w2 i hi⟩
            · rw [un _ (by omega) (by omega)]; exact hR2 e he
            · rw [un _ (by omega) (by omega)]; exact hR3 e he
            · have hu6 := (hP.2.2.1 u hu).1
              obtain ⟨w1, w2⟩ := hR4 u hu
              refine ⟨by rw [un _ (by omega) (by omega)]; exact w1, fun i hi => ?_⟩
              have hi' : i < bh (qP G) u := hi
              rw [un _ (by omega) (by omega), un _ (by omega) (by omega)]
              exact w2 i hi
            · rw [un _ (by omega) (by omega), un _ (by omega) (by omega), un _ (by omega) (by omega)]
              exact hR5
          refine anew y0 y1 s9 s15 (fun _ => 0) 0 _ hg hM (fun q hq => by rw [h9]; exact c1 q hq) (fun q hq => ?_) hR' (TxtG_0 (by rw [h15]; rfl) (by rw [h9]; rfl)) (fun y3 g3 hI3 => ?_)
          · rw [h9]
            show (if q = 6 then _ else y.2.2 q) = _
            rw [if_neg hq, c2]
          · have tx3 : TX (y3.1 1) v L len := by
              rw [g3, s91]
              exact ⟨by rw [pk_un (by omega)]; exact tx9.1, fun i hi => by rw [pk_un (by omega)]; exact tx9.2 i hi⟩
            refine n_usedBy hL tx3 hv (tx_at htx) (fun w2 hw2 hu2 => ⟨?_, hI3⟩)
            rw [Ub_uniq hw hw2 (fun d hd => (hu d hd).trans (usB_C.trans ((tx_us htx hd).symm.trans (hu2 d hd).symm)))]
        · have hk : k < 80 := by
            rcases Nat.lt_or_ge k 80 with w | w
            · exact w
            · exact absurd (nI_le w (by omega)) q
          have y6 : y.2.2 6 = nI len := by rw [c2]; exact y16
          have nk : nI k + 1 = nI (k + 1) := nI_1 k
          have step : ∀ (x : Int32) (s13 : RT), s13 = rI y 1 (upd (y.1 1) (49 + 81 * v + k) x) → (k < len → x = nI (L k)) → lp_X10_right_44 (nI v) (fun v2 m2 => nI w = v2 ∧ Inv (j + 1) s15 s' r p ct2 kp2 kr2 sl sr m2) f (nI (k + 1)) s13 := by
            intro x s13 h13 hx
            have g13 : s13.1 1 = upd (y.1 1) (49 + 81 * v + k) x := by rw [h13]; rfl
            refine ih (k + 1) s13 (by omega) (by omega) (fun q hq => ?_) (by rw [h13]; exact c2) (fun i i1 i2 => ?_) (fun q hq => ?_)
            · rw [h13]
              show (if q = 1 then _ else y.1 q) = _
              rw [if_neg hq]; exact c1 q hq
            · rw [g13]
              by_cases e : i = k
              · subst e; rw [pk_us]; exact hx i2
              · rw [pk_un (by omega)]; exact c3 i (by omega) i2
            · rw [g13, pk_un (by omega)]; exact c4 q hq
          rw [ixR1, y6, nI_clamp (by omega), nI_clamp (by omega)]
          have vj := vp_in_nI (n := 49 + 81 * v + k) (N := 812) (by omega) (by decide)
          refine ⟨fun w => ⟨vj, fun s13 h13 x14 h14 => ?_⟩, fun w => ⟨vp_in_nI hk (by decide), vj, fun s15 h15 x16 h16 => ?_⟩⟩
          · rw [nk] at h14
            subst h14
            have := (nI_leI (by omega) (by omega)).mp w
            exact step 0 s13 h13 (fun w2 => by omega)
          · rw [nk] at h16
            subst h16
            refine step _ s15 h15 (fun w2 => ?_)
            rw [c1 5 (by decide), y15]
            exact hMT.2 k w2
    refine key 81 0 s7 rfl (by decide) (fun q hq => ?_) (by rw [h7]; rfl) (fun i hi => by omega) (fun q _ => rfl)
    rw [h7]; exact if_neg hq
  · have e : (nI (sumP L 6 0).2.1).toInt = -1 := by rw [w]; decide
    rw [nI_int (by omega)] at e
    omega
  · have e : (nI (sumP L 6 0).2.1).toInt = -2000000004 := by rw [w]; decide
    rw [nI_int (by omega)] at e
    omega
  · obtain ⟨_, hrest⟩ := Inv_I h' (SameI_G hg)
    exact ⟨⟨L, len, hL, hs.1, hs.2.1, MT_G hMT hg⟩, hrest⟩
