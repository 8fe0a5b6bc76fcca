/-! what holds between two calls -/
def TxtG (t m : RT) (L : Nat → Nat) (len : Nat) : Prop := LOK L len ∧ t.2.2 1 = nI len ∧ (∀ i, i < len → t.1 1 i = nI (L i)) ∧ MT m L len
def Cur (j : Nat) (G : GH) (c m : RT) : Prop := PrG j G ∧ SxG G c ∧ RwG G (m.1 1) ∧ BM m (qn G) (qT G) (qO G) (qD G) ∧ PM m (pth G).1 (pth G).2.2
def SlG (j : Nat) (sl : Nat → Option Nat) (sr : Nat → RT) (inS : Nat → Int32) (rows : Nat → Int32) : Prop := ∀ i, i < 2 → (sl i = none ∧ inS i = 0) ∨ ((∃ b, sl i = some b) ∧ inS i = 1 ∧ ∃ G, PrG j G ∧ SxG G (sr i) ∧ RwG G (fun q => rows (812 * i + q)))
def Inv (j : Nat) (t c r p : RT) (ct : Int32) (kp : Nat → Option Nat) (kr : Nat → RT) (sl : Nat → Option Nat) (sr : Nat → RT) (m : RT) : Prop := (∃ L len, TxtG t m L len) ∧ (∃ G, Cur j G c m) ∧ (∃ cn, ct = nI cn ∧ m.2.2 2 = nI cn ∧ KG j cn kp kr (m.1 2)) ∧ SlG j sl sr (m.1 4) (m.1 3) ∧ Z0 r ∧ m.2.2 19 = 0
theorem SlG_mono {j j' : Nat} {sl : Nat → Option Nat} {sr : Nat → RT} {a b : Nat → Int32} (h : SlG j sl sr a b) (hj : j ≤ j') : SlG j' sl sr a b := fun i hi => (h i hi).elim Or.inl (fun ⟨w1, w2, G, g1, g2⟩ => Or.inr ⟨w1, w2, G, PrG_mono g1 hj, g2⟩)
theorem Cur_mono {j j' : Nat} {G : GH} {c m : RT} (h : Cur j G c m) (hj : j ≤ j') : Cur j' G c m := ⟨PrG_mono h.1 hj, h.2⟩
section
variable {j : Nat} {t c r p m : RT} {ct : Int32} {kp sl : Nat → Option Nat} {kr sr : Nat → RT}
theorem Inv_s (h : Inv j t c r p ct kp kr sl sr m) : Inv (j + 1) t c r p ct kp kr sl sr m := by
  obtain ⟨h1, ⟨G, h2⟩, ⟨cn, h3, h4, h5⟩, h6, h7⟩ := h
  exact ⟨h1, ⟨G, Cur_mono h2 (by omega)⟩, ⟨cn, h3, h4, KG_mono h5 (by omega)⟩, SlG_mono h6 (by omega), h7⟩
theorem PT_idle_ok : PT_idle Inv := fun _ _ _ _ _ _ _ _ _ _ _ h => Inv_s h
/-- what of the reference no question touches -/
def SameI (m y : RT) : Prop := (∀ j, j < 12 → y.1 j = m.1 j) ∧ (∀ j, 12 ≤ j → j < 15 → y.2.1 j = m.2.1 j) ∧ ∀ k, k < 20 → y.2.2 k = m.2.2 k
theorem SameI_V {m y : RT} (h : SameV m y) : SameI m y := ⟨fun j hj => h.1 j (by omega), fun j h1 h2 => h.2.1 j (by omega), fun k hk => h.2.2 k (by omega) (by omega)⟩
theorem SameI_G {m y : RT} (h : SameG m y) : SameI m y := ⟨fun j hj => h.1 j (by omega), fun j h1 h2 => by rw [h.2], fun k hk => by rw [h.2]⟩
theorem BM_I {y : RT} {n : Nat} {T O D : Nat → Nat} (h : BM m n T O D) (hs : SameI m y) : BM y n T O D := by
  unfold BM at h ⊢
  rw [hs.1 6 (by decide), hs.1 7 (by decide), hs.1 8 (by decide), hs.2.2 10 (by decide)]
  exact h
theorem PM_I {y : RT} {n : Nat} {g : Nat → Int32} (h : PM m n g) (hs : SameI m y) : PM y n g := by
  unfold PM at h ⊢
  rw [hs.2.2 17 (by decide), hs.2.2 18 (by decide), hs.1 9 (by decide), hs.1 10 (by decide), hs.1 11 (by decide), hs.2.1 12 (by decide) (by decide), hs.2.1 13 (by decide) (by decide), hs.2.1 14 (by decide) (by decide)]
  exact h
theorem Cur_I {G : GH} {y : RT} (h : Cur j G c m) (hs : SameI m y) : Cur j G c y := ⟨h.1, h.2.1, by rw [hs.1 1 (by decide)]; exact h.2.2.1, BM_I h.2.2.2.1 hs, PM_I h.2.2.2.2 hs⟩
theorem MT_I {y : RT} {L : Nat → Nat} {len : Nat} (h : MT m L len) (hs : SameI m y) : MT y L len := by
  unfold MT at h ⊢
  rw [hs.2.2 6 (by decide), hs.1 5 (by decide)]
  exact h
theorem Inv_I {y : RT} (h : Inv j t c r p ct kp kr sl sr m) (hs : SameI m y) : Inv j t c r p ct kp kr sl sr y := by
  obtain ⟨⟨L, len, h1⟩, ⟨G, h2⟩, ⟨cn, h3, h4, h5⟩, h6, h7, h8⟩ := h
  refine ⟨⟨L, len, h1.1, h1.2.1, h1.2.2.1, MT_I h1.2.2.2 hs⟩, ⟨G, Cur_I h2 hs⟩, ⟨cn, h3, (hs.2.2 2 (by decide)).trans h4, ?_⟩, ?_, h7, (hs.2.2 19 (by decide)).trans h8⟩
  · rw [hs.1 2 (by decide)]; exact h5
  · rw [hs.1 4 (by decide), hs.1 3 (by decide)]; exact h6
/-- the text alone is another -/
theorem Inv_T {t' y : RT} {L' : Nat → Nat} {len' : Nat} (h : Inv j t c r p ct kp kr sl sr m) (hT : TxtG t' y L' len') (h1 : ∀ k, k ≠ 5 → y.1 k = m.1 k) (h2 : y.2.1 = m.2.1) (h3 : ∀ k, k ≠ 6 → y.2.2 k = m.2.2 k) : Inv j t' c r p ct kp kr sl sr y := by
  obtain ⟨_, ⟨G, g⟩, ⟨cn, k1, k2, k3⟩, k4, k5, k6⟩ := h
  refine ⟨⟨L', len', hT⟩, ⟨G, g.1, g.2.1, by rw [h1 1 (by decide)]; exact g.2.2.1, ?_, ?_⟩, ⟨cn, k1, (h3 2 (by decide)).trans k2, by rw [h1 2 (by decide)]; exact k3⟩, by rw [h1 4 (by decide), h1 3 (by decide)]; exact k4, k5, (h3 19 (by decide)).trans k6⟩
  · have b := g.2.2.2.1
    unfold BM at b ⊢
    rw [h1 6 (by decide), h1 7 (by decide), h1 8 (by decide), h3 10 (by decide)]
    exact b
  · have b := g.2.2.2.2
    unfold PM at b ⊢
    rw [h3 17 (by decide), h3 18 (by decide), h1 9 (by decide), h1 10 (by decide), h1 11 (by decide), h2]
    exact b
end
theorem PT_type_ok : PT_type Inv := by
  intro j t c r p ct kp kr sl sr m a0 hj h
  have h' := Inv_s h
  obtain ⟨⟨L, len, h1, h2, h3, h4⟩, _⟩ := h
  have h80 := h1.1
  refine n_isWithin ⟨fun z => ?_, fun z => ?_⟩
  · have hb := wi_eq.mp (b2_1.mp z)
    have e33 : (33 : Int32).toInt = 33 := by decide
    have e126 : (126 : Int32).toInt = 126 := by decide
    obtain ⟨ch, hch, rfl⟩ := nI_of_int (x := a0) (by omega)
    rw [nI_int hch] at hb
    unfold wp_X8_append
    rw [h2]
    refine ⟨fun q => ?_, fun q => ⟨fun _ => n_within ⟨fun _ => ⟨fun w => absurd ?_ w, fun _ => ⟨rfl, h'⟩⟩, fun w => absurd w z⟩, fun w => absurd rfl w⟩⟩
    · have hl : len < 80 := (nI_ltI (b := 80) (by omega) (by decide)).mp q
      refine n_put (by decide) ?_
      rw [pt_n (by decide) hl]
      intro s3 e3 s4 e4
      refine ⟨fun w => absurd w (by decide), fun _ => n_within ⟨fun _ => ⟨fun _ => ?_, fun w => absurd ((nI_eq (b := 80) (by omega) (by decide)).mp (h4.1.symm.trans w)) (by omega)⟩, fun w => absurd w z⟩⟩
      have en : s4.2.2 1 = nI (len + 1) := by
        rw [e4, e3]
        show t.2.2 1 + 1 = _
        rw [h2, nI_1]
      rw [h4.1, nI_clamp (by omega)]
      refine ⟨vp_in_nI hl (by decide), fun y1 f1 y2 f2 => ?_⟩
      have em : y2.2.2 6 = nI (len + 1) := by
        rw [f2, f1]
        show m.2.2 6 + 1 = _
        rw [h4.1, nI_1]
      refine ⟨en.trans em.symm, ?_⟩
      refine Inv_T (L' := fun k => if k = len then ch else L k) (len' := len + 1) h' ⟨⟨by omega, fun k hk => ?_, fun k hk => ?_⟩, en, fun i hi => ?_, em, fun i hi => ?_⟩ (fun k hk => ?_) ?_ (fun k hk => ?_)
      · show 33 ≤ (if k = len then ch else L k) ∧ (if k = len then ch else L k) ≤ 126
        by_cases e : k = len
        · rw [if_pos e]; omega
        · rw [if_neg e]; exact h1.2.1 k (by omega)
      · show (if k = len then ch else L k) = 0
        rw [if_neg (by omega)]; exact h1.2.2 k (by omega)
      · rw [e4, e3]
        show upd (t.1 1) len (nI ch) i = nI (if i = len then ch else L i)
        by_cases e : i = len
        · rw [e, pk_us, if_pos rfl]
        · rw [pk_un e, if_neg e]; exact h3 i (by omega)
      · rw [f2, f1]
        show upd (m.1 5) len (nI ch) i = nI (if i = len then ch else L i)
        by_cases e : i = len
        · rw [e, pk_us, if_pos rfl]
        · rw [pk_un e, if_neg e]; exact h4.2 i (by omega)
      · rw [f2, f1]; exact if_neg hk
      · rw [f2, f1]; rfl
      · rw [f2, f1]; exact if_neg hk
    · rw [h4.1]
      have : ¬ len < 80 := fun w => q ((nI_ltI (b := 80) (by omega) (by decide)).mpr w)
      rw [show len = 80 by omega]; rfl
  · exact n_within ⟨fun w => absurd z w, fun _ => ⟨rfl, h'⟩⟩
theorem TxtG_0 {t m : RT} (h1 : t.2.2 1 = nI 0) (h2 : m.2.2 6 = nI 0) : TxtG t m (fun _ => 0) 0 := ⟨⟨by omega, fun k hk => by omega, fun k _ => rfl⟩, h1, fun i hi => by omega, h2, fun i hi => by omega⟩
theorem PT_wipe_ok : PT_wipe Inv := by
  intro j t c r p ct kp kr sl sr m hj h
  have h' := Inv_s h
  obtain ⟨⟨L, len, h1, h2, h3, h4⟩, _⟩ := h
  intro x1 e1 s1 e2 y1 f1 y2 f2
  refine ⟨by rw [e1, f1, h2, h4.1], ?_⟩
  refine Inv_T h' (TxtG_0 (by rw [e2]; rfl) (by rw [f2]; rfl)) (fun k _ => by rw [f2]; rfl) (by rw [f2]; rfl) (fun k hk => by rw [f2]; exact if_neg hk)
theorem PT_fault_ok : PT_fault Inv := by
  intro j t c r p ct kp kr sl sr m hj h
  have h' := Inv_s h
  obtain ⟨⟨L, len, h1, h2, h3, h4⟩, _⟩ := h
  have h80 := h1.1
  have hp := sum_pb h1 6 0 (by omega)
  have fin : ∀ (s y : RT), AtF s L len (sumP L 6 0).2.1 ∨ AtF s L len len → SameG m y → Inv (j + 1) s c r p ct kp kr sl sr y := by
    intro s y hs hy
    have hA : s.2.2 1 = nI len ∧ ∀ i, i < len → s.1 1 i = nI (L i) := hs.elim (fun w => ⟨w.1, w.2.1⟩) (fun w => ⟨w.1, w.2.1⟩)
    obtain ⟨_, hrest⟩ := Inv_I h' (SameI_G hy)
    exact ⟨⟨L, len, h1, hA.1, hA.2, MT_G h4 hy⟩, hrest⟩
  refine n_read h1 h2 h3 (fun q1 q2 s' hs => ⟨fun w => absurd rfl w, fun _ => ?_⟩) (fun q s' hs => ⟨fun w => ?_, fun w => ?_⟩) (by omega)
  · exact n_faultOf h1 h4 (fun _ _ y hy => ⟨rfl, fin s' y (Or.inr hs.1) hy⟩) (fun w => absurd ⟨q1, q2⟩ w)
  · exact n_faultOf h1 h4 (fun w1 w2 => absurd ⟨w1, w2⟩ q) (fun _ y hy => ⟨rfl, fin s' y (Or.inl hs) hy⟩)
  · have e : (nI (sumP L 6 0).2.1).toInt = -1 := by rw [w]; decide
    rw [nI_int (by omega)] at e
    omega
