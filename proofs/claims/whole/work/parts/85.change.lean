/-! changes -/
theorem RMp_congr {f f' : Nat → Int32} {P : PB} (hP : POKp P) (h : RMp f P) (e : ∀ q, q < 291 → f' q = f q) : RMp f' P := by
  obtain ⟨h1, h2, h3, h4, h5, h6, h7⟩ := h
  refine ⟨fun v hv => ?_, fun d hd => by rw [e _ (by omega)]; exact h2 d hd, fun d hd => by rw [e _ (by omega)]; exact h3 d hd, fun v hv => ?_, by rw [e _ (by decide)]; exact h5, by rw [e _ (by decide)]; exact h6, by rw [e _ (by decide)]; exact h7⟩
  · have h80 := (hP.1 v hv).1.1
    obtain ⟨q1, q2⟩ := h1 v hv
    exact ⟨by rw [e _ (by omega)]; exact q1, fun i hi => by rw [e _ (by omega)]; exact q2 i hi⟩
  · have h6' := (hP.2.2.1 v hv).1
    obtain ⟨q1, q2⟩ := h4 v hv
    refine ⟨by rw [e _ (by omega)]; exact q1, fun k hk => ?_⟩
    rw [e _ (by omega), e _ (by omega)]
    exact q2 k hk
theorem n_anewM {m : RT} {P : PB} {nb : Nat} {T O D : Nat → Nat} {K : RT → Prop} (hP : POKp P) (hR : RMp (m.1 1) P) (hb : BrkOK P nb T O D) (h19 : m.2.2 19 = 0) (h : ∀ y, y.1 1 = upd (m.1 1) 291 0 → (∀ j, j < 6 → j ≠ 1 → y.1 j = m.1 j) → y.2.2 2 = m.2.2 2 → y.2.2 6 = m.2.2 6 → y.2.2 19 = 0 → BM y nb T O D → PM y 0 (g00 P) → K y) : wp_X10_anew m K := by
  refine ⟨(vp_in_nI (show 291 < 812 by decide) (by decide) : vp_in (nI 291) 812), fun s1 h1 => ?_⟩
  have e1 : s1.1 1 = upd (m.1 1) 291 0 := by rw [h1]; rfl
  refine n_solvesAll (ne := 0) (E := fun _ => 0) hP (RMp_congr hP hR (fun q hq => by rw [e1, pk_un (by omega)])) hb ⟨by omega, fun k hk => by omega⟩ (by rw [e1, pk_us]; rfl) (fun k hk => by omega) (by rw [h1]; exact h19) (fun y q1 q2 q3 q4 => ?_)
  refine h y ((q1.1 1 (by decide)).trans e1) (fun j hj hj1 => (q1.1 j hj).trans ?_) (q1.2.1.trans ?_) (q1.2.2.trans ?_) q2 q3 q4
  · rw [h1]; exact if_neg hj1
  · rw [h1]; rfl
  · rw [h1]; rfl
theorem n_change (p : RT) {j cn : Nat} {c r m : RT} {ct2 : Int32} {kp sl kp2 : Nat → Option Nat} {kr sr kr2 : Nat → RT} {G : GH} {s : RT} {P : PB} {K : RT → Prop} (hC : Cur j G c m) (hK : KG j cn kp kr (m.1 2)) (hSl : SlG j sl sr (m.1 4) (m.1 3)) (hr : Z0 r) (h19 : m.2.2 19 = 0) (hX : RcX G cn kr ct2 kp2 kr2) (hP : POKp P) (hS : SXp s P) (hZ : Z0 s)
    (h : ∀ s', SXp s' P → (∀ v, v < 3 → s'.1 4 v = s.1 4 v) → (∀ (y1 y2 t' : RT) (L' : Nat → Nat) (len' : Nat) (KM : RT → Prop), RcM cn m y1 → (∀ j, j ≠ 1 → y2.1 j = y1.1 j) → (∀ k, k ≠ 6 → y2.2.2 k = y1.2.2 k) → RMp (y2.1 1) P → TxtG t' y2 L' len' → (∀ y3, y3.1 1 = upd (y2.1 1) 291 0 → Inv (j + 1) t' s' r p ct2 kp2 kr2 sl sr y3 → KM y3) → wp_X10_anew y2 KM) → K s') : wp_X6_restart s K := by
  refine n_restartX hP hS hZ (fun s' nb T O D a1 a2 a3 a4 a5 => h s' a1 a5 (fun y1 y2 t' L' len' KM hM e1 e2 hR hT hKM => ?_))
  have h0 := hM.1
  refine n_anewM hP hR a3 ((e2 19 (by decide)).trans ((h0.2.2 19 (by decide)).trans h19)) (fun y3 b1 b2 b3 b4 b5 b6 b7 => hKM y3 b1 ?_)
  obtain ⟨cn2, c1, c2, c3⟩ := KG_rec hC.1 hK hC.2.2.1 hX hM
  have f2 : y3.1 2 = y1.1 2 := (b2 2 (by decide) (by decide)).trans (e1 2 (by decide))
  have f3 : y3.1 3 = m.1 3 := (b2 3 (by decide) (by decide)).trans ((e1 3 (by decide)).trans (h0.1 3 (by decide)))
  have f4 : y3.1 4 = m.1 4 := (b2 4 (by decide) (by decide)).trans ((e1 4 (by decide)).trans (h0.1 4 (by decide)))
  refine ⟨⟨L', len', hT.1, hT.2.1, hT.2.2.1, b4.trans hT.2.2.2.1, fun i hi => by rw [b2 5 (by decide) (by decide)]; exact hT.2.2.2.2 i hi⟩, ⟨(P, (nb, T, O, D), (0, fun _ => 0)), ⟨hP, a3, Nat.zero_le _, by show 0 ≤ 512; omega, fun k hk => absurd hk (Nat.not_lt_zero k)⟩, ⟨a1, a2, a4⟩, ⟨RMp_congr hP hR (fun q hq => by rw [b1, pk_un (by omega)]), by rw [b1, pk_us]; rfl, fun k hk => absurd hk (Nat.not_lt_zero k)⟩, b6, b7⟩, ⟨cn2, c1, b3.trans ((e2 2 (by decide)).trans c2), by rw [f2]; exact KG_mono c3 (by omega)⟩, ?_, hr, b5⟩
  rw [f3, f4]
  exact SlG_mono hSl (by omega)
theorem nI_iz {n : Nat} (h : n < 2147483648) : nI n = iz (n : Int) := by apply i_ext; rw [nI_int h, iz_toInt ⟨by omega, by omega⟩]
def updI (f : Nat → Int) (k : Nat) (x : Int) : Nat → Int := fun j => if j = k then x else f j
theorem PT_delay_ok : PT_delay Inv := by
  intro j t c r p ct kp kr sl sr m a0 a1 a2 hj h
  have h' := Inv_s h
  obtain ⟨⟨L, len, hT⟩, ⟨G, hG⟩, ⟨cn, k1, k2, k3⟩, k4, k5, k6⟩ := h
  refine n_isDelay ⟨fun z => n_isThree ⟨fun _ => ⟨rfl, h'⟩, fun w => absurd z w⟩, fun z => n_isWithin ⟨fun y => n_isThree ⟨fun w => absurd w z, fun _ => n_within ⟨fun _ => ⟨rfl, h'⟩, fun w => absurd y w⟩⟩, fun y => n_isWithin ⟨fun x => ?_, fun x => n_isThree ⟨fun w => absurd w z, fun _ => n_within ⟨fun w => absurd w y, fun _ => n_within ⟨fun w => absurd x w, fun _ => ⟨rfl, h'⟩⟩⟩⟩⟩⟩⟩
  obtain ⟨d, hd, rfl⟩ := wi02 (b2_1.mp z)
  have hb1 := wi_eq.mp (b2_1.mp y)
  have hb2 := wi_eq.mp (b2_1.mp x)
  have e0 : (0 : Int32).toInt = 0 := by decide
  have e5 : (5000 : Int32).toInt = 5000 := by decide
  have e9 : (900 : Int32).toInt = 900 := by decide
  have e9n : (-900 : Int32).toInt = -900 := by decide
  obtain ⟨hS1, hS2, hS3, hS4, hS5⟩ := hG.2.1.1
  obtain ⟨hR1, hR2, hR3, hR4, hR5⟩ := hG.2.2.1.1
  have hP := hG.1.1
  refine n_record hG.1 hG.2.1 k1 k3 (fun ct2 kp2 kr2 hRc => n_pick (by decide) (n_put (by decide) ?_))
  rw [pk_n (by decide) hd, pt_n (by decide) hd]
  intro s13 h13
  refine n_put (by decide) ?_
  rw [pt_n (by decide) hd]
  intro s16 h16
  let P' : PB := ((bL (qP G), bl (qP G)), (updI (bc (qP G)) d a1.toInt, updI (bp (qP G)) d a2.toInt), (bh (qP G), bT (qP G), bV (qP G)), (bS (qP G), bR (qP G), bO (qP G)))
  have hP' : POKp P' := by
    refine ⟨hP.1, fun e he => ?_, hP.2.2.1, hP.2.2.2⟩
    show 0 ≤ updI _ d _ e ∧ updI _ d _ e ≤ 5000 ∧ -900 ≤ updI _ d _ e ∧ updI _ d _ e ≤ 900
    unfold updI
    by_cases q : e = d
    · rw [if_pos q, if_pos q]; omega
    · rw [if_neg q, if_neg q]; exact hP.2.1 e he
  have f6 : s16.1 6 = upd (c.1 6) d a1 := by rw [h16, h13]; rfl
  have f7 : s16.1 7 = upd (c.1 7) d a2 := by rw [h16, h13]; rfl
  have fo : ∀ k, k ≠ 6 → k ≠ 7 → s16.1 k = c.1 k := by
    intro k q6 q7
    rw [h16, h13]
    show (if k = 7 then _ else if k = 6 then _ else c.1 k) = c.1 k
    rw [if_neg q7, if_neg q6]
  have hS' : SXp s16 P' := by
    refine ⟨fun v hv => ?_, fun e he => ?_, fun e he => ?_, fun v hv => ?_, ?_⟩
    · have := hS1 v hv
      unfold CDX at this ⊢
      rw [fo 3 (by decide) (by decide), fo 2 (by decide) (by decide), fo 4 (by decide) (by decide)]
      exact this
    · rw [f6]
      show (upd (c.1 6) d a1 e).toInt = updI (bc (qP G)) d a1.toInt e
      unfold updI
      by_cases q : e = d
      · rw [q, pk_us, if_pos rfl]
      · rw [pk_un q, if_neg q]; exact hS2 e he
    · rw [f7]
      show (upd (c.1 7) d a2 e).toInt = updI (bp (qP G)) d a2.toInt e
      unfold updI
      by_cases q : e = d
      · rw [q, pk_us, if_pos rfl]
      · rw [pk_un q, if_neg q]; exact hS3 e he
    · rw [fo 9 (by decide) (by decide), fo 10 (by decide) (by decide), fo 11 (by decide) (by decide)]
      exact hS4 v hv
    · rw [fo 12 (by decide) (by decide)]; exact hS5
  have hZ' : Z0 s16 := by
    have := SxG_Z0 hG.1 hG.2.1
    unfold Z0 at this ⊢
    rw [fo 14 (by decide) (by decide), fo 15 (by decide) (by decide), fo 16 (by decide) (by decide), fo 18 (by decide) (by decide)]
    exact this
  refine n_change p hG k3 k4 k5 k6 hRc hP' hS' hZ' (fun s' hs' _ anew => n_isThree ⟨fun w => absurd w z, fun _ => n_within ⟨fun w => absurd w y, fun _ => n_within ⟨fun _ => ?_, fun w => absurd w x⟩⟩⟩)
  refine n_saves k3.1 k2 (fun y1 hM => ?_)
  have y11 : y1.1 1 = m.1 1 := hM.1.1 1 (by decide)
  have q3 : (3 : Int32) + nI d = nI (3 + d) := by rw [show (3 : Int32) = nI 3 from rfl, nI_add]
  have q6 : (6 : Int32) + nI d = nI (6 + d) := by rw [show (6 : Int32) = nI 6 from rfl, nI_add]
  rw [q3, q6, nI_clamp (by omega), nI_clamp (by omega)]
  have v3 := vp_in_nI (n := 3 + d) (N := 812) (by omega) (by decide)
  have v6 := vp_in_nI (n := 6 + d) (N := 812) (by omega) (by decide)
  refine ⟨v3, fun x8 h8 => ⟨v3, fun s9 h9 => ⟨v6, fun s10 h10 => ?_⟩⟩⟩
  have g1 : s10.1 1 = upd (upd (m.1 1) (3 + d) a1) (6 + d) a2 := by rw [h10, h9, ← y11]; rfl
  refine anew y1 s10 t L len _ hM (fun k hk => ?_) (fun k _ => by rw [h10, h9]; rfl) ?_ ⟨hT.1, hT.2.1, hT.2.2.1, ?_⟩ (fun y3 _ hI => ⟨?_, hI⟩)
  · rw [h10, h9]
    show (if k = 1 then _ else if k = 1 then _ else y1.1 k) = y1.1 k
    rw [if_neg hk, if_neg hk]
  · rw [g1]
    have un : ∀ q, q ≠ 3 + d → q ≠ 6 + d → upd (upd (m.1 1) (3 + d) a1) (6 + d) a2 q = m.1 1 q := fun q w1 w2 => by rw [pk_un w2, pk_un w1]
    refine ⟨fun v hv => ?_, fun e he => ?_, fun e he => ?_, fun v hv => ?_, ?_⟩
    · obtain ⟨w1, w2⟩ := hR1 v hv
      exact ⟨by rw [un _ (by omega) (by omega)]; exact w1, fun i hi => by rw [un _ (by omega) (by omega)]; exact w2 i hi⟩
    · show _ = updI (bc (qP G)) d a1.toInt e
      unfold updI
      by_cases q : e = d
      · rw [q, if_pos rfl, pk_un (by omega), pk_us]
      · rw [if_neg q, un _ (by omega) (by omega)]; exact hR2 e he
    · show _ = updI (bp (qP G)) d a2.toInt e
      unfold updI
      by_cases q : e = d
      · rw [q, if_pos rfl, pk_us]
      · rw [if_neg q, un _ (by omega) (by omega)]; exact hR3 e he
    · obtain ⟨w1, w2⟩ := hR4 v hv
      refine ⟨by rw [un _ (by omega) (by omega)]; exact w1, fun k hk => ?_⟩
      rw [un _ (by omega) (by omega), un _ (by omega) (by omega)]
      exact w2 k hk
    · rw [un _ (by omega) (by omega), un _ (by omega) (by omega), un _ (by omega) (by omega)]
      exact hR5
  · have hm := hT.2.2.2
    unfold MT at hm ⊢
    have a5 : s10.1 5 = m.1 5 := by rw [h10, h9]; exact hM.1.1 5 (by decide)
    have a6 : s10.2.2 6 = m.2.2 6 := by rw [h10, h9]; exact hM.1.2.2 6 (by decide)
    rw [a5, a6]
    exact hm
  · rw [h8, y11]
    exact i_ext ((hS2 d hd).trans (hR2 d hd).symm)
