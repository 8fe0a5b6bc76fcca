/-! further changes: the text, right, solve, undo, save, restore -/
def RelR (A : AB) (v : Int32) (A2 : AB) : Prop := ((v = -2000000001 ∨ v = -2000000002) ∧ A2 = A) ∨ (¬ ErrV v ∧ ∃ G, A2 = pushA A G)
def popA (A : AB) : AB := (aj A, aK A (an A - 1), (an A - 1, aK A), aS A)
def RelU (A : AB) (v : Int32) (A2 : AB) : Prop := (an A = 0 ∧ v = -2000000002 ∧ A2 = A) ∨ (0 < an A ∧ v = nI (an A - 1) ∧ A2 = popA A)
def savA (A : AB) (i : Nat) : AB := (aj A, aG A, (an A, aK A), fun k => if k = i then some (aG A) else aS A k)
def RelS (A : AB) (v : Int32) (A2 : AB) : Prop := (ErrV v ∧ A2 = A) ∨ (¬ ErrV v ∧ ∃ i, i < 2 ∧ A2 = savA A i)
theorem pop_ok {A : AB} (hA : AOK A) (h : 0 < an A) : AOK (popA A) := by
  obtain ⟨h1, h2, h3, h4⟩ := hA
  refine ⟨h3 _ (by omega), ?_, fun i hi => h3 i ?_, h4⟩
  · show an A - 1 ≤ 4
    omega
  · have : i < an A - 1 := hi
    omega
theorem sav_ok {A : AB} {i : Nat} (hA : AOK A) : AOK (savA A i) := by
  obtain ⟨h1, h2, h3, h4⟩ := hA
  refine ⟨h1, h2, h3, fun k hk g hg => ?_⟩
  have hg' : (if k = i then some (aG A) else aS A k) = some g := hg
  by_cases e : k = i
  · rw [if_pos e] at hg'
    cases hg'
    exact h1
  · rw [if_neg e] at hg'
    exact h4 k hk g hg'
theorem TxtX_0 {t : RT} (h1 : t.2.2 1 = nI 0) : TxtX t (fun _ => 0) 0 := ⟨⟨by omega, fun k hk => by omega, fun k _ => rfl⟩, h1, fun i hi => by omega⟩
section
variable {A : AB} {t c r p : RT} {ct : Int32} {kp sl : Nat → Option Nat} {kr sr : Nat → RT}
theorem HLD_t {t2 : RT} {L : Nat → Nat} {len : Nat} (h : HLD A t c r ct kp kr sl sr) (hT : TxtX t2 L len) : HLD A t2 c r ct kp kr sl sr := ⟨⟨L, len, hT⟩, h.2⟩
theorem cx_type {a0 : Int32} {K : Int32 → RT → Prop} (h : HLD A t c r ct kp kr sl sr) (hK : ∀ v t2, HLD A t2 c r ct kp kr sl sr → K v t2) : wp_X9_type t c r p ct kp kr sl sr a0 K := by
  obtain ⟨L, len, h1, h2, h3⟩ := h.1
  have h80 := h1.1
  refine n_isWithin ⟨fun z => ?_, fun z => hK _ _ h⟩
  have hb := wi_eq.mp (b2_1.mp z)
  have e33 : (33 : Int32).toInt = 33 := by decide
  have e126 : (126 : Int32).toInt = 126 := by decide
  obtain ⟨ch, hch, rfl⟩ := nI_of_int (x := a0) (by omega)
  rw [nI_int hch] at hb
  unfold wp_X8_append
  rw [h2]
  refine ⟨fun q => ?_, fun q => ⟨fun _ => hK _ _ h, fun w => absurd rfl w⟩⟩
  have hl : len < 80 := (nI_ltI (b := 80) (by omega) (by decide)).mp q
  refine n_put (by decide) ?_
  rw [pt_n (by decide) hl]
  intro s3 e3 s4 e4
  refine ⟨fun w => absurd w (by decide), fun _ => hK _ _ ?_⟩
  refine HLD_t (L := fun k => if k = len then ch else L k) (len := len + 1) h ⟨⟨by omega, fun k hk => ?_, fun k hk => ?_⟩, ?_, fun i hi => ?_⟩
  · show 33 ≤ (if k = len then ch else L k) ∧ (if k = len then ch else L k) ≤ 126
    by_cases e : k = len
    · rw [if_pos e]; omega
    · rw [if_neg e]; exact h1.2.1 k (by omega)
  · show (if k = len then ch else L k) = 0
    rw [if_neg (by omega)]; exact h1.2.2 k (by omega)
  · rw [e4, e3]
    show t.2.2 1 + 1 = _
    rw [h2, nI_1]
  · rw [e4, e3]
    show upd (t.1 1) len (nI ch) i = nI (if i = len then ch else L i)
    by_cases e : i = len
    · rw [e, pk_us, if_pos rfl]
    · rw [pk_un e, if_neg e]; exact h3 i (by omega)
theorem cx_wipe {K : Int32 → RT → Prop} (h : HLD A t c r ct kp kr sl sr) (hK : ∀ v t2, HLD A t2 c r ct kp kr sl sr → K v t2) : wp_X9_wipe t c r p ct kp kr sl sr K := by
  intro x1 e1 s1 e2
  exact hK _ _ (HLD_t h (TxtX_0 (by rw [e2]; rfl)))
theorem cx_fault {K : Int32 → RT → Prop} (h : HLD A t c r ct kp kr sl sr) (hK : ∀ v t2, HLD A t2 c r ct kp kr sl sr → K v t2) : wp_X9_fault t c r p ct kp kr sl sr K := by
  obtain ⟨L, len, h1, h2, h3⟩ := h.1
  have h80 := h1.1
  have hp := sum_pb h1 6 0 (by omega)
  exact n_read h1 h2 h3 (fun q1 q2 s' hs => ⟨fun w => absurd rfl w, fun _ => hK _ _ (HLD_t h ⟨h1, hs.1.1, hs.1.2.1⟩)⟩) (fun q s' hs => ⟨fun w => hK _ _ (HLD_t h ⟨h1, hs.1, hs.2.1⟩), fun w => hK _ _ (HLD_t h ⟨h1, hs.1, hs.2.1⟩)⟩) (by omega)
theorem cx_right {a0 : Int32} {K : Int32 → RT → RT → Int32 → (Nat → Option Nat) → (Nat → RT) → Prop} (hA : AOK A) (h : HLD A t c r ct kp kr sl sr) (hK : ∀ v A2 t2 c2 ct2 kp2 kr2, RelR A v A2 → AOK A2 → HLD A2 t2 c2 r ct2 kp2 kr2 sl sr → K v t2 c2 ct2 kp2 kr2) : wp_X9_right t c r p ct kp kr sl sr a0 K := by
  obtain ⟨g1, g2, g3, g4, g5, g6, g7, hP, hS⟩ := aX hA h
  obtain ⟨L, len, hL, ht1, ht2⟩ := h.1
  have h80 := hL.1
  have hpb := sum_pb hL 6 0 (by omega)
  refine n_isVariable ⟨fun z => ?_, fun z => hK _ A _ _ _ _ _ (Or.inl ⟨Or.inl rfl, rfl⟩) hA h⟩
  obtain ⟨v, hv, rfl⟩ := wi02 (b2_1.mp z)
  refine n_read hL ht1 ht2 (fun q1 q2 s4 hs => ⟨fun _ => ?_, fun w => absurd rfl w⟩) (fun q s4 hs => ⟨fun w => ?_, fun _ => hK _ A _ _ _ _ _ (Or.inl ⟨Or.inr rfl, rfl⟩) hA (HLD_t h ⟨hL, hs.1, hs.2.1⟩)⟩) (by omega)
  · obtain ⟨hS1, hS2, hS3, hS4, hS5⟩ := hS
    have hZ := SxG_Z0 hA.1 h.2.1
    have htx : TxOK L len := ⟨hL, q1, q2⟩
    refine n_rec hA h (fun ct2 kp2 kr2 hRc => n_take hv (fun s11 fo f3 f4 f2 f2' => ?_))
    let P' : PB := ((updL (bL (aP A)) v L, updT (bl (aP A)) v len), (bc (aP A), bp (aP A)), (bh (aP A), bT (aP A), bV (aP A)), (bS (aP A), bR (aP A), bO (aP A)))
    have bLv : bL P' v = L := if_pos rfl
    have blv : bl P' v = len := if_pos rfl
    have bLo : ∀ u, u ≠ v → bL P' u = bL (aP A) u := fun u hu => if_neg hu
    have blo : ∀ u, u ≠ v → bl P' u = bl (aP A) u := fun u hu => if_neg hu
    have hP' : POKp P' := by
      refine ⟨fun u hu => ?_, hP.2⟩
      by_cases e : u = v
      · subst e; rw [bLv, blv]; exact htx
      · rw [bLo u e, blo u e]; exact hP.1 u hu
    have hcl := tx_len htx
    have hS' : SXp s11 P' := by
      refine ⟨fun u hu => ?_, fun e he => by rw [fo 6 (by decide) (by decide) (by decide)]; exact hS2 e he, fun e he => by rw [fo 7 (by decide) (by decide) (by decide)]; exact hS3 e he, fun u hu => ?_, by rw [fo 12 (by decide) (by decide) (by decide)]; exact hS5⟩
      · unfold CDX cd
        rw [f3, f4]
        by_cases e : u = v
        · subst e
          rw [bLv, pk_us, pk_us]
          refine ⟨Or.inl ⟨hs.2.2.1, CodeX_shift (b := 0) (fun i hi => ?_) hs.2.1⟩, hs.2.2.2⟩
          rw [Nat.zero_add]
          exact f2 i (by omega)
        · rw [bLo u e, pk_un e, pk_un e]
          obtain ⟨w1, w2⟩ := hS1 u hu
          refine ⟨w1.elim (fun w => Or.inl ⟨w.1, CodeX_congr (fun i i1 i2 => f2' i ?_) w.2⟩) Or.inr, w2⟩
          have := tx_len (hP.1 u hu)
          have : (cd (aP A) u).length ≤ 80 := this
          have : i < u * 80 + (cd (aP A) u).length := i2
          omega
      · rw [fo 9 (by decide) (by decide) (by decide), fo 10 (by decide) (by decide) (by decide), fo 11 (by decide) (by decide) (by decide)]
        exact hS4 u hu
    have hZ' : Z0 s11 := by
      unfold Z0 at hZ ⊢
      rw [fo 14 (by decide) (by decide) (by decide), fo 15 (by decide) (by decide) (by decide), fo 16 (by decide) (by decide) (by decide), fo 18 (by decide) (by decide) (by decide)]
      exact hZ
    refine n_chg hA h hRc hP' hS' hZ' (fun s' G ok hh _ h4' => ?_)
    intro s15 h15
    refine n_pick (by decide) ?_
    rw [pk_n (by decide) hv, h4' v hv, f4, pk_us, hs.2.2.2, obI_N (tx_opB htx)]
    refine n_delaysIn (obN_lt (tx_opB htx)) (fun w hw hu => ?_)
    exact hK _ _ _ _ _ _ _ (Or.inr ⟨noErr (by rw [nI_int (by omega)]; omega), G, rfl⟩) ok (hh s15 (fun _ => 0) 0 (TxtX_0 (by rw [h15]; rfl)))
  · have e : (nI (sumP L 6 0).2.1).toInt = -1 := by rw [w]; decide
    rw [nI_int (by omega)] at e
    omega
theorem cx_solve {a0 : Int32} {K : Int32 → RT → RT → Int32 → (Nat → Option Nat) → (Nat → RT) → Prop} (hA : AOK A) (hj : aj A < 512) (h : HLD A t c r ct kp kr sl sr) (hK : ∀ v A2 c2 p2 ct2 kp2 kr2, RelC A v A2 → AOK A2 → HLD A2 t c2 r ct2 kp2 kr2 sl sr → K v c2 p2 ct2 kp2 kr2) : wp_X9_solve t c r p ct kp kr sl sr a0 K := by
  obtain ⟨g1, g2, g3, g4, g5, g6, g7, hP, hS⟩ := aX hA h
  have bad : K (-2000000001) c p ct kp kr := hK _ A _ _ _ _ _ (Or.inl ⟨err1, rfl⟩) hA h
  have gok := pth_ok hA.1
  have hbt := (brk_ok hP hA.1.2.1).1
  have e1 : (1 : Int32).toInt = 1 := by decide
  have e2 : (2000 : Int32).toInt = 2000 := by decide
  refine n_isWithin ⟨fun z => ?_, fun z => bad⟩
  have hb := wi_eq.mp (b2_1.mp z)
  obtain ⟨a, ha, rfl⟩ := nI_of_int (x := a0) (by omega)
  rw [nI_int ha] at hb
  refine n_endTime g5 (by omega) g1 (fun x4 h4 => ?_)
  rw [nI_add] at h4
  subst h4
  refine ⟨fun q => ?_, fun q => hK _ A _ _ _ _ _ (Or.inl ⟨err3, rfl⟩) hA h⟩
  have htg : (aT A).2.1 + a ≤ 8000 := (nI_leI (b := 8000) (by omega) (by decide)).mp q
  have hne : qe (aG A) < 512 := by have := hA.1.2.2.1; omega
  refine n_rec hA h (fun ct2 kp2 kr2 hRc => ?_)
  refine n_advance hP hbt hne hS h.2.1.2.1 g5 gok (by omega) htg (fun s10 s11 hs hX => ?_)
  obtain ⟨go1, go2⟩ := goN_ok hP hbt hne htg 8000 (aT A) (fun _ => gok) (GOK_mono gok (by omega)) (by omega) (by omega)
  have hn2 := GOK_n hbt go1 (by omega)
  refine n_endTime hX (by omega) go1.2.2.1 ?_
  rw [go2]
  have eqE : ∀ i, i < qe (aG A) → updT (qE (aG A)) (qe (aG A)) ((aT A).2.1 + a) i = qE (aG A) i := fun i hi => if_neg (by omega)
  have epth : allN (aP A) (qT (aG A)) (qn (aG A)) (updT (qE (aG A)) (qe (aG A)) ((aT A).2.1 + a)) (qe (aG A)) = aT A := allN_congr _ eqE
  have eE : updT (qE (aG A)) (qe (aG A)) ((aT A).2.1 + a) (qe (aG A)) = (aT A).2.1 + a := if_pos rfl
  have epth2 : allN (aP A) (qT (aG A)) (qn (aG A)) (updT (qE (aG A)) (qe (aG A)) ((aT A).2.1 + a)) (qe (aG A) + 1) = goN (aP A) (qT (aG A)) (qn (aG A)) 8000 ((aT A).2.1 + a) (aT A) := by
    unfold allN
    rw [epth, eE]
  let G' : GH := (aP A, (qn (aG A), qT (aG A), qO (aG A), qD (aG A)), (qe (aG A) + 1, updT (qE (aG A)) (qe (aG A)) ((aT A).2.1 + a)))
  have epg : pth G' = goN (aP A) (qT (aG A)) (qn (aG A)) 8000 ((aT A).2.1 + a) (aT A) := epth2
  have hG' : PrG (aj A + 1) G' := by
    refine ⟨hP, hA.1.2.1, ?_, ?_⟩
    · show qe (aG A) + 1 ≤ aj A + 1
      have := hA.1.2.2.1
      omega
    · refine ⟨?_, fun k hk => ?_⟩
      · show qe (aG A) + 1 ≤ 512
        omega
      · show (allN (aP A) (qT (aG A)) (qn (aG A)) (updT (qE (aG A)) (qe (aG A)) ((aT A).2.1 + a)) k).2.1 ≤ updT (qE (aG A)) (qe (aG A)) ((aT A).2.1 + a) k ∧ updT (qE (aG A)) (qe (aG A)) ((aT A).2.1 + a) k ≤ 8000
        have hk' : k < qe (aG A) + 1 := hk
        by_cases e : k = qe (aG A)
        · subst e
          rw [epth, eE]
          omega
        · rw [allN_congr k (fun i hi => eqE i (by omega)), eqE k (by omega)]
          exact hA.1.2.2.2.2 k (by omega)
  obtain ⟨r1, r2⟩ := hRc G'
  exact hK _ (pushA A G') _ _ _ _ _ (Or.inr ⟨noErr (by rw [nI_int (by omega)]; omega), G', rfl⟩) (push_ok hA hG') ⟨h.1, ⟨SXp_18 hS hs, BX_18 h.2.1.2.1 hs, by show PX _ (pth G').1 (pth G').2.2; rw [epg]; exact hX⟩, r2, r1, h.2.2.2.2.1, h.2.2.2.2.2⟩
theorem cx_undo {K : Int32 → RT → Int32 → Prop} (hA : AOK A) (h : HLD A t c r ct kp kr sl sr) (hK : ∀ v A2 c2 ct2, RelU A v A2 → AOK A2 → HLD A2 t c2 r ct2 kp kr sl sr → K v c2 ct2) : wp_X9_undo t c r p ct kp kr sl sr K := by
  obtain ⟨hT, hS, k1, k3, k4, k5⟩ := id h
  have h4 := hA.2.1
  have e01 : (1 : Int32) ≠ 0 := by decide
  unfold wp_X9_undo wp_X2_giveBack
  refine ⟨fun q => ⟨fun _ => ?_, fun w => absurd rfl w⟩, fun q => ⟨fun _ => ?_, fun w => absurd (by rw [k1]; exact nI_le h4 (by decide)) w⟩⟩
  · rw [k1] at q
    have : an A ≤ 0 := (nI_leI (b := 0) (by omega) (by decide)).mp q
    exact hK _ A _ _ (Or.inl ⟨by omega, rfl, rfl⟩) hA h
  · have hc : 0 < an A := by
      rcases Nat.eq_zero_or_pos (an A) with w | w
      · exact absurd (by rw [k1, w]; exact nI_le (Nat.le_refl 0) (by decide)) q
      · exact w
    have e1 : ct - 1 = nI (an A - 1) := by rw [k1]; exact p1 (by omega)
    rw [e1, nI_clamp (by omega)]
    obtain ⟨b1, g2⟩ := k3 (an A - 1) (by omega)
    refine ⟨b1, n_copyFrom (hA.2.2.1 _ (by omega)) g2 (fun s hs => ⟨fun w => absurd w e01, fun _ => ?_⟩)⟩
    refine hK _ (popA A) _ _ (Or.inr ⟨hc, rfl, rfl⟩) (pop_ok hA hc) ⟨hT, hs, rfl, fun i hi => k3 i ?_, k4, k5⟩
    have : i < an A - 1 := hi
    omega
theorem cx_save {a0 : Int32} {K : Int32 → (Nat → Option Nat) → (Nat → RT) → Prop} (hA : AOK A) (h : HLD A t c r ct kp kr sl sr) (hK : ∀ v A2 sl2 sr2, RelS A v A2 → AOK A2 → HLD A2 t c r ct kp kr sl2 sr2 → K v sl2 sr2) : wp_X9_save t c r p ct kp kr sl sr a0 K := by
  obtain ⟨g1, g2, g3, g4, g5, g6, g7, hP, hS⟩ := aX hA h
  have bad : K (-2000000001) sl sr := hK _ A _ _ (Or.inl ⟨err1, rfl⟩) hA h
  obtain ⟨hT, hS', k1, k3, k4, k5⟩ := id h
  refine ⟨fun q => bad, fun q => ⟨fun q2 => ?_, fun q2 => bad⟩⟩
  obtain ⟨i, hi, rfl, hw⟩ := sl_arg q q2
  rw [nI_clamp (by omega)]
  have fin : ∀ (sl2 : Nat → Option Nat) (s : RT), SxG (aG A) s → (∃ b, sl2 i = some b) → (∀ k, k ≠ i → sl2 k = sl k) → K (nI (aT A).2.1) sl2 (va_up sr i s) := by
    intro sl2 s hs hb ho
    refine hK _ (savA A i) _ _ (Or.inr ⟨noErr (by rw [nI_int (by omega)]; omega), i, hi, rfl⟩) (sav_ok hA) ⟨hT, hS', k1, k3, fun u hu => ?_, k5⟩
    show (sl2 u = none ∧ (if u = i then some (aG A) else aS A u) = none) ∨ ((∃ b, sl2 u = some b) ∧ ∃ g, (if u = i then some (aG A) else aS A u) = some g ∧ SxG g (va_up sr i s u))
    by_cases e : u = i
    · subst e
      exact Or.inr ⟨hb, aG A, if_pos rfl, by rw [va_same]; exact hs⟩
    · rw [ho u e, va_ne _ _ _ _ _ e, if_neg e]
      exact k4 u hu
  refine ⟨fun hnone => n_copyFrom hA.1 hS' (fun s hs => n_endTime g5 (by omega) g1 (fun b => fin _ s hs ⟨b, va_same _ _ _ _⟩ (fun k hk => va_ne _ _ _ _ _ hk))), fun b hb => n_copyFrom hA.1 hS' (fun s hs => n_endTime g5 (by omega) g1 (fin sl s hs ⟨b, hb⟩ (fun _ _ => rfl)))⟩
theorem cx_restore {a0 : Int32} {K : Int32 → RT → Int32 → (Nat → Option Nat) → (Nat → RT) → Prop} (hA : AOK A) (h : HLD A t c r ct kp kr sl sr) (hK : ∀ v A2 c2 ct2 kp2 kr2, RelC A v A2 → AOK A2 → HLD A2 t c2 r ct2 kp2 kr2 sl sr → K v c2 ct2 kp2 kr2) : wp_X9_restore t c r p ct kp kr sl sr a0 K := by
  have bad : K (-2000000001) c ct kp kr := hK _ A _ _ _ _ (Or.inl ⟨err1, rfl⟩) hA h
  obtain ⟨hT, hS', k1, k3, k4, k5⟩ := id h
  refine ⟨fun q => bad, fun q => ⟨fun q2 => ?_, fun q2 => bad⟩⟩
  obtain ⟨i, hi, rfl, hw⟩ := sl_arg q q2
  rw [nI_clamp (by omega)]
  refine ⟨fun hnone => hK _ A _ _ _ _ (Or.inl ⟨err2, rfl⟩) hA h, fun b hb => ?_⟩
  rcases k4 i hi with w2 | ⟨_, G', w3, w4⟩
  · rw [hb] at w2; exact absurd w2.1 (by simp)
  · have hG' := hA.2.2.2 i hi G' w3
    have gok' := pth_ok hG'
    have hn' := pth_n hG'
    have h8 := gok'.2.2.2.1
    refine n_rec hA h (fun ct2 kp2 kr2 hRc => n_copyFrom hG' w4 (fun s hs => n_endTime hs.2.2 (by omega) gok'.2.2.1 ?_))
    obtain ⟨r1, r2⟩ := hRc G'
    exact hK _ (pushA A G') _ _ _ _ (Or.inr ⟨noErr (by rw [nI_int (by omega)]; omega), G', rfl⟩) (push_ok hA (PrG_mono hG' (by omega))) ⟨hT, hs, r2, r1, k4, k5⟩
end
