/-! solve -/
theorem allN_congr {P : PB} {T : Nat → Nat} {nb : Nat} {E E' : Nat → Nat} : ∀ k, (∀ i, i < k → E i = E' i) → allN P T nb E k = allN P T nb E' k := by
  intro k
  induction k with
  | zero => intro _; rfl
  | succ k ih =>
    intro h
    unfold allN
    rw [ih (fun i hi => h i (by omega)), h k (by omega)]
theorem BM_2P {m y : RT} {n : Nat} {T O D : Nat → Nat} (h : BM m n T O D) (hs : ∀ k, 6 ≤ k → y.1 k = m.1 k) (h2 : y.2.2 10 = m.2.2 10) : BM y n T O D := by
  unfold BM at h ⊢
  rw [hs 6 (by decide), hs 7 (by decide), hs 8 (by decide), h2]
  exact h
theorem PM_2P {m y : RT} {n : Nat} {g : Nat → Int32} (h : PM m n g) (hs : ∀ k, 6 ≤ k → y.1 k = m.1 k) (h2 : ∀ k, k < 15 → y.2.1 k = m.2.1 k) (h3 : y.2.2 17 = m.2.2 17) (h4 : y.2.2 18 = m.2.2 18) : PM y n g := by
  unfold PM at h ⊢
  rw [hs 9 (by decide), hs 10 (by decide), hs 11 (by decide), h2 12 (by decide), h2 13 (by decide), h2 14 (by decide), h3, h4]
  exact h
theorem PT_solve_ok : PT_solve Inv := by
  intro j t c r p ct kp kr sl sr m a0 hj h
  have h' := Inv_s h
  obtain ⟨⟨L, len, hT⟩, ⟨G, hG⟩, ⟨cn, k1, k2, k3⟩, k4, k5, k6⟩ := h
  obtain ⟨g1, g2, g3, g4, g5⟩ := cur_end hG
  have hn := pth_n hG.1
  have gok := pth_ok hG.1
  have hP := hG.1.1
  have hbt := (brk_ok hP hG.1.2.1).1
  have e1 : (1 : Int32).toInt = 1 := by decide
  have e2 : (2000 : Int32).toInt = 2000 := by decide
  have hp : ∀ p2 : RT, Inv (j + 1) t c r p2 ct kp kr sl sr m := fun p2 => h'
  refine n_isWithin ⟨fun z => ?_, fun z => n_within ⟨fun w => absurd z w, fun _ => ⟨rfl, h'⟩⟩⟩
  have hb := wi_eq.mp (b2_1.mp z)
  obtain ⟨a, ha, rfl⟩ := nI_of_int (x := a0) (by omega)
  rw [nI_int ha] at hb
  refine n_endTime hG.2.1.2.2 (by omega) g1 (fun x4 h4 => ?_)
  rw [nI_add] at h4
  subst h4
  refine ⟨fun q => ?_, fun q => n_within ⟨fun _ => ?_, fun w => absurd w z⟩⟩
  · have htg : (pth G).2.1 + a ≤ 8000 := (nI_leI (b := 8000) (by omega) (by decide)).mp q
    have hne : qe G < 512 := by have := hG.1.2.2.1; omega
    refine n_record hG.1 hG.2.1 k1 k3 (fun ct2 kp2 kr2 hRc => ?_)
    refine n_advance hP hbt hne hG.2.1.1 hG.2.1.2.1 hG.2.1.2.2 gok (by omega) htg (fun s10 s11 hs hX => ?_)
    obtain ⟨go1, go2⟩ := goN_ok hP hbt hne htg 8000 (pth G) (fun _ => gok) (GOK_mono gok (by omega)) (by omega) (by omega)
    have hn2 := GOK_n hbt go1 (by omega)
    refine n_endTime hX (by omega) go1.2.2.1 (n_within ⟨fun _ => ?_, fun w => absurd w z⟩)
    rw [go2, g3, nI_add]
    refine ⟨fun _ => n_saves k3.1 k2 (fun y1 hM => ?_), fun w => absurd q w⟩
    intro x5 h5
    have y11 : y1.1 1 = m.1 1 := hM.1.1 1 (by decide)
    have y118 : y1.2.2 18 = nI (pth G).2.1 := (hM.1.2.2 18 (by decide)).trans g3
    rw [y118, nI_add] at h5
    subst h5
    have e291 : y1.1 1 (291 : Int32).toNatClampNeg = nI (qe G) := by rw [y11]; exact hG.2.2.1.2.1
    have v291 : vp_in (291 : Int32) 812 := (vp_in_nI (show 291 < 812 by decide) (by decide) : vp_in (nI 291) 812)
    rw [e291, show (292 : Int32) + nI (qe G) = nI (292 + qe G) by rw [show (292 : Int32) = nI 292 from rfl, nI_add], nI_clamp (by omega)]
    refine ⟨v291, vp_in_nI (by omega) (by decide), fun s6 h6 => ⟨v291, v291, fun s7 h7 => ?_⟩⟩
    have s61 : s6.1 1 = upd (m.1 1) (292 + qe G) (nI ((pth G).2.1 + a)) := by rw [h6, ← y11]; rfl
    have s71 : s7.1 1 = upd (upd (m.1 1) (292 + qe G) (nI ((pth G).2.1 + a))) 291 (nI (qe G + 1)) := by
      rw [h7, ← s61]
      show upd (s6.1 1) 291 (s6.1 1 291 + 1) = _
      have : s6.1 1 291 = nI (qe G) := by
        rw [s61, pk_un (by omega)]; exact hG.2.2.1.2.1
      rw [this, nI_1]
    have s7o : ∀ k, k ≠ 1 → s7.1 k = y1.1 k := fun k hk => by
      rw [h7, h6]
      show (if k = 1 then _ else if k = 1 then _ else y1.1 k) = _
      rw [if_neg hk, if_neg hk]
    have s72 : s7.2 = y1.2 := by rw [h7, h6]; rfl
    have c7 : ∀ k, 6 ≤ k → s7.1 k = m.1 k := fun k hk => (s7o k (by omega)).trans (hM.1.1 k (by omega))
    have hR7 : RMp (s7.1 1) (qP G) := RMp_congr hP hG.2.2.1.1 (fun q hq => by rw [s71, pk_un (by omega), pk_un (by omega)])
    have hB7 : BM s7 (qn G) (qT G) (qO G) (qD G) := BM_2P hG.2.2.2.1 c7 (by rw [s72]; exact hM.1.2.2 10 (by decide))
    have hM7 : PM s7 (pth G).1 (pth G).2.2 := PM_2P hG.2.2.2.2 c7 (fun k _ => by rw [s72, hM.1.2.1]) (by rw [s72]; exact hM.1.2.2 17 (by decide)) (by rw [s72]; exact hM.1.2.2 18 (by decide))
    have h19 : s7.2.2 19 = 0 := by rw [s72, hM.1.2.2 19 (by decide)]; exact k6
    refine n_goesTo hP hbt hne hR7 hB7 hM7 h19 gok (by omega) htg (fun y8 d0 d1 d2 => ?_)
    have e18 : y8.2.2 18 = nI ((pth G).2.1 + a) := by rw [d2.2.1, go1.2.2.1, go2]
    refine ⟨e18.symm, ?_⟩
    have qd := SameQ_R d0
    obtain ⟨cn2, c1, c2, c3⟩ := KG_rec hG.1 k3 hG.2.2.1 hRc hM
    have eqE : ∀ i, i < qe G → updT (qE G) (qe G) ((pth G).2.1 + a) i = qE G i := fun i hi => if_neg (by omega)
    have epth : allN (qP G) (qT G) (qn G) (updT (qE G) (qe G) ((pth G).2.1 + a)) (qe G) = pth G := allN_congr _ eqE
    have eE : updT (qE G) (qe G) ((pth G).2.1 + a) (qe G) = (pth G).2.1 + a := if_pos rfl
    have epth2 : allN (qP G) (qT G) (qn G) (updT (qE G) (qe G) ((pth G).2.1 + a)) (qe G + 1) = goN (qP G) (qT G) (qn G) 8000 ((pth G).2.1 + a) (pth G) := by
      unfold allN
      rw [epth, eE]
    let G' : GH := (qP G, (qn G, qT G, qO G, qD G), (qe G + 1, updT (qE G) (qe G) ((pth G).2.1 + a)))
    have epg : pth G' = goN (qP G) (qT G) (qn G) 8000 ((pth G).2.1 + a) (pth G) := epth2
    refine ⟨⟨L, len, hT.1, hT.2.1, hT.2.2.1, ?_⟩, ⟨G', ⟨hP, hG.1.2.1, ?_, ?_⟩, ⟨SXp_18 hG.2.1.1 hs, BX_18 hG.2.1.2.1 hs, by rw [epg]; exact hX⟩, ⟨?_, ?_, fun k hk => ?_⟩, BM_R hB7 d0, by rw [epg]; exact d2⟩, ⟨cn2, c1, qd.2.1.trans (by rw [s72]; exact c2), ?_⟩, ?_, k5, d1⟩
    · have hm := hT.2.2.2
      unfold MT at hm ⊢
      have a5 : y8.1 5 = m.1 5 := (qd.1 5 (by decide)).trans ((s7o 5 (by decide)).trans (hM.1.1 5 (by decide)))
      have a6 : y8.2.2 6 = m.2.2 6 := qd.2.2.trans (by rw [s72]; exact hM.1.2.2 6 (by decide))
      rw [a5, a6]
      exact hm
    · show qe G + 1 ≤ j + 1
      have := hG.1.2.2.1
      omega
    · refine ⟨?_, fun k hk => ?_⟩
      · show qe G + 1 ≤ 512
        omega
      · show (allN (qP G) (qT G) (qn G) (updT (qE G) (qe G) ((pth G).2.1 + a)) k).2.1 ≤ updT (qE G) (qe G) ((pth G).2.1 + a) k ∧ updT (qE G) (qe G) ((pth G).2.1 + a) k ≤ 8000
        have hk' : k < qe G + 1 := hk
        by_cases e : k = qe G
        · subst e
          rw [epth, eE]
          omega
        · rw [allN_congr k (fun i hi => eqE i (by omega)), eqE k (by omega)]
          exact hG.1.2.2.2.2 k (by omega)
    · rw [qd.1 1 (by decide)]; exact hR7
    · rw [qd.1 1 (by decide), s71, pk_us]; rfl
    · have hk' : k < qe G + 1 := hk
      rw [qd.1 1 (by decide), s71, pk_un (by omega)]
      show _ = nI (updT (qE G) (qe G) ((pth G).2.1 + a) k)
      by_cases e : k = qe G
      · subst e; rw [pk_us, eE]
      · rw [pk_un (by omega), eqE k (by omega)]
        exact hG.2.2.1.2.2 k (by omega)
    · rw [qd.1 2 (by decide), s7o 2 (by decide)]
      exact KG_mono c3 (by omega)
    · rw [qd.1 3 (by decide), qd.1 4 (by decide), s7o 3 (by decide), s7o 4 (by decide), hM.1.1 3 (by decide), hM.1.1 4 (by decide)]
      exact SlG_mono k4 (by omega)
  · rw [g3, nI_add]
    exact ⟨fun w => absurd w q, fun _ => ⟨rfl, h'⟩⟩
