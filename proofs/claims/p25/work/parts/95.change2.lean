/-! changes: what they leave -/
def ErrV (v : Int32) : Prop := -2000000004 ≤ v.toInt ∧ v.toInt ≤ -2000000001
def pushA (A : AB) (G : GH) : AB := (aj A + 1, G, (if an A < 4 then an A + 1 else 4, if an A < 4 then (fun i => if i = an A then aG A else aK A i) else (fun i => if i = 3 then aG A else aK A (i + 1))), aS A)
def RelC (A : AB) (v : Int32) (A2 : AB) : Prop := (ErrV v ∧ A2 = A) ∨ (¬ ErrV v ∧ ∃ G, A2 = pushA A G)
theorem err1 : ErrV (-2000000001) := by unfold ErrV; decide
theorem err2 : ErrV (-2000000002) := by unfold ErrV; decide
theorem err3 : ErrV (-2000000003) := by unfold ErrV; decide
theorem noErr {v : Int32} (h : 0 ≤ v.toInt) : ¬ ErrV v := fun q => by have := q.2; omega
theorem push_ok {A : AB} {G : GH} (hA : AOK A) (hG : PrG (aj A + 1) G) : AOK (pushA A G) := by
  obtain ⟨h1, h2, h3, h4⟩ := hA
  have m : ∀ g, PrG (aj A) g → PrG (aj A + 1) g := fun g h => PrG_mono h (by omega)
  refine ⟨hG, ?_, fun i hi => ?_, fun i hi g hg => m g (h4 i hi g hg)⟩
  · show (if an A < 4 then an A + 1 else 4) ≤ 4
    split <;> omega
  · show PrG (aj A + 1) ((if an A < 4 then (fun i => if i = an A then aG A else aK A i) else (fun i => if i = 3 then aG A else aK A (i + 1))) i)
    have hi' : i < (if an A < 4 then an A + 1 else 4) := hi
    by_cases q : an A < 4
    · rw [if_pos q] at hi'
      rw [if_pos q]
      by_cases e : i = an A
      · rw [if_pos e]; exact m _ h1
      · rw [if_neg e]; exact m _ (h3 i (by omega))
    · rw [if_neg q] at hi'
      rw [if_neg q]
      by_cases e : i = 3
      · rw [if_pos e]; exact m _ h1
      · rw [if_neg e]; exact m _ (h3 _ (by omega))
def RecA (A : AB) (ct2 : Int32) (kp2 : Nat → Option Nat) (kr2 : Nat → RT) : Prop := ∀ G, KpX (pushA A G) kp2 kr2 ∧ ct2 = nI (an (pushA A G))
section
variable {A : AB} {t c r p : RT} {ct : Int32} {kp sl : Nat → Option Nat} {kr sr : Nat → RT}
theorem n_rec {K : Int32 → (Nat → Option Nat) → (Nat → RT) → Prop} (hA : AOK A) (h : HLD A t c r ct kp kr sl sr) (hk : ∀ ct2 kp2 kr2, RecA A ct2 kp2 kr2 → K ct2 kp2 kr2) : wp_X2_record ct kp kr c K := by
  obtain ⟨-, hS, hct, hK, -⟩ := h
  have h4 := hA.2.1
  have hG := hA.1
  subst hct
  have up_same : ∀ (α : Type) (f : Nat → α) (i : Nat) (x : α), va_up f i x i = x := fun α f i x => by simp [va_up]
  have up_ne : ∀ (α : Type) (f : Nat → α) (i k : Nat) (x : α), k ≠ i → va_up f i x k = f k := fun α f i k x hk => by simp [va_up, hk]
  have lo : an A < 4 → ∀ kp2 kr2, (∀ i, i < an A + 1 → ∃ b, kp2 i = some b) → SxG (aG A) (kr2 (an A)) → (∀ i, i < an A → kr2 i = kr i) → RecA A (nI (an A + 1)) kp2 kr2 := by
    intro hc kp2 kr2 a1 a2 a3 G
    have e : an (pushA A G) = an A + 1 := if_pos hc
    refine ⟨fun i hi => ?_, by rw [e]⟩
    rw [e] at hi
    refine ⟨a1 i hi, ?_⟩
    show SxG ((if an A < 4 then (fun i => if i = an A then aG A else aK A i) else (fun i => if i = 3 then aG A else aK A (i + 1))) i) (kr2 i)
    rw [if_pos hc]
    by_cases e2 : i = an A
    · rw [if_pos e2, e2]; exact a2
    · rw [if_neg e2, a3 i (by omega)]; exact (hK i (by omega)).2
  have hi : ¬ an A < 4 → ∀ kp2 kr2, (∀ i, i < 4 → ∃ b, kp2 i = some b) → SxG (aG A) (kr2 3) → (∀ i, i < 3 → kr2 i = kr (i + 1)) → RecA A (nI 4) kp2 kr2 := by
    intro hc kp2 kr2 a1 a2 a3 G
    have e : an (pushA A G) = 4 := if_neg hc
    refine ⟨fun i hi => ?_, by rw [e]⟩
    rw [e] at hi
    refine ⟨a1 i hi, ?_⟩
    show SxG ((if an A < 4 then (fun i => if i = an A then aG A else aK A i) else (fun i => if i = 3 then aG A else aK A (i + 1))) i) (kr2 i)
    rw [if_neg hc]
    by_cases e2 : i = 3
    · rw [if_pos e2, e2]; exact a2
    · rw [if_neg e2, a3 i (by omega)]; exact (hK (i + 1) (by omega)).2
  refine ⟨fun q => ?_, fun q => ⟨fun i hi => ?_, ?_⟩⟩
  · have hc : an A < 4 := (nI_ltI (by omega) (by decide)).mp q
    unfold wp_rec1
    rw [nI_clamp (by omega), nI_1]
    refine ⟨nI_pos (by omega), q, fun _ => ?_, fun b hb => ?_⟩
    · refine n_copyFrom hG hS (fun s hs b => hk _ _ _ (lo hc _ _ (fun i hi => ?_) (by rw [up_same]; exact hs) (fun i hi => by rw [up_ne _ _ _ _ _ (by omega)])))
      by_cases e : i = an A
      · subst e; exact ⟨b, up_same _ _ _ _⟩
      · rw [up_ne _ _ _ _ _ e]; exact (hK i (by omega)).1
    · refine n_copyFrom hG hS (fun s hs => hk _ _ _ (lo hc _ _ (fun i hi => ?_) (by rw [up_same]; exact hs) (fun i hi => by rw [up_ne _ _ _ _ _ (by omega)])))
      by_cases e : i = an A
      · subst e; exact ⟨b, hb⟩
      · exact (hK i (by omega)).1
  · have hc : an A = 4 := by
      rcases Nat.lt_or_ge (an A) 4 with w | w
      · exact absurd ((nI_ltI (by omega) (by decide)).mpr w) q
      · omega
    exact (hK i (by omega)).1
  · have hc : an A = 4 := by
      rcases Nat.lt_or_ge (an A) 4 with w | w
      · exact absurd ((nI_ltI (by omega) (by decide)).mpr w) q
      · omega
    have hsome : ∀ i, i < 4 → ∃ b, rotK kp i = some b := fun i hi => by
      rw [rotK_at kp hi]
      exact (hK _ (by have := rot_in hi; omega)).1
    have e3 : nI 4 - 1 = nI 3 := by rw [p1 (by decide)]
    unfold wp_rec1
    rw [e3, nI_clamp (by decide), nI_1]
    refine ⟨by decide, by decide, fun hn => ?_, fun b hb => ?_⟩
    · obtain ⟨b, hb⟩ := hsome 3 (by decide)
      rw [hn] at hb
      exact absurd hb (by simp)
    · refine n_copyFrom hG hS (fun s hs => hk _ _ _ (hi (by omega) _ _ hsome (by rw [up_same]; exact hs) (fun i hi => ?_)))
      rw [up_ne _ _ _ _ _ (by omega)]
      unfold rotR
      rw [if_neg (by omega)]
theorem n_chg {s : RT} {P : PB} {ct2 : Int32} {kp2 : Nat → Option Nat} {kr2 : Nat → RT} {K : RT → Prop} (hA : AOK A) (h : HLD A t c r ct kp kr sl sr) (hR : RecA A ct2 kp2 kr2) (hP : POKp P) (hS : SXp s P) (hZ : Z0 s)
    (hk : ∀ s' G, AOK (pushA A G) → (∀ t' L' len', TxtX t' L' len' → HLD (pushA A G) t' s' r ct2 kp2 kr2 sl sr) → SXp s' P → (∀ v, v < 3 → s'.1 4 v = s.1 4 v) → K s') : wp_X6_restart s K := by
  refine n_restartX hP hS hZ (fun s' nb T O D a1 a2 a3 a4 a5 => ?_)
  have hG : PrG (aj A + 1) (P, (nb, T, O, D), (0, fun _ => 0)) := ⟨hP, a3, Nat.zero_le _, by show 0 ≤ 512; omega, fun k hk => absurd hk (Nat.not_lt_zero k)⟩
  obtain ⟨r1, r2⟩ := hR (P, (nb, T, O, D), (0, fun _ => 0))
  exact hk s' (P, (nb, T, O, D), (0, fun _ => 0)) (push_ok hA hG) (fun t' L' len' hT => ⟨⟨L', len', hT⟩, ⟨a1, a2, a4⟩, r2, r1, h.2.2.2.2.1, h.2.2.2.2.2⟩) a1 a5
theorem cx_delay {a0 a1 a2 : Int32} {K : Int32 → RT → Int32 → (Nat → Option Nat) → (Nat → RT) → Prop} (hA : AOK A) (h : HLD A t c r ct kp kr sl sr) (hK : ∀ v A2 c2 ct2 kp2 kr2, RelC A v A2 → AOK A2 → HLD A2 t c2 r ct2 kp2 kr2 sl sr → K v c2 ct2 kp2 kr2) : wp_X9_delay t c r p ct kp kr sl sr a0 a1 a2 K := by
  obtain ⟨g1, g2, g3, g4, g5, g6, g7, hP, hS⟩ := aX hA h
  have bad : K (-2000000001) c ct kp kr := hK _ A _ _ _ _ (Or.inl ⟨err1, rfl⟩) hA h
  refine n_isDelay ⟨fun z => bad, fun z => n_isWithin ⟨fun y => bad, fun y => n_isWithin ⟨fun x => ?_, fun x => bad⟩⟩⟩
  obtain ⟨d, hd, rfl⟩ := wi02 (b2_1.mp z)
  have hb1 := wi_eq.mp (b2_1.mp y)
  have hb2 := wi_eq.mp (b2_1.mp x)
  have e0 : (0 : Int32).toInt = 0 := by decide
  have e5 : (5000 : Int32).toInt = 5000 := by decide
  have e9 : (900 : Int32).toInt = 900 := by decide
  have e9n : (-900 : Int32).toInt = -900 := by decide
  obtain ⟨hS1, hS2, hS3, hS4, hS5⟩ := hS
  have hZ := SxG_Z0 hA.1 h.2.1
  refine n_rec hA h (fun ct2 kp2 kr2 hRc => n_pick (by decide) (n_put (by decide) ?_))
  rw [pk_n (by decide) hd, pt_n (by decide) hd]
  intro s13 h13
  refine n_put (by decide) ?_
  rw [pt_n (by decide) hd]
  intro s16 h16
  let P' : PB := ((bL (aP A), bl (aP A)), (updI (bc (aP A)) d a1.toInt, updI (bp (aP A)) d a2.toInt), (bh (aP A), bT (aP A), bV (aP A)), (bS (aP A), bR (aP A), bO (aP A)))
  have hP' : POKp P' := by
    refine ⟨hP.1, fun e he => ?_, hP.2.2.1, hP.2.2.2⟩
    show 0 ≤ updI _ d _ e ∧ updI _ d _ e ≤ 5000 ∧ -900 ≤ updI _ d _ e ∧ updI _ d _ e ≤ 900
    unfold updI
    by_cases q : e = d
    · rw [if_pos q, if_pos q]; omega
    · rw [if_neg q, if_neg q]; exact hP.2.1 e he
  have f6 : s16.1 6 = upd (c.1 6) d a1 := by rw [h16, h13]; rfl
  have f7 : s16.1 7 = upd (c.1 7) d a2 := by rw [h16, h13]; rfl
  have fo : ∀ k, k ≠ 6 → k ≠ 7 → s16.1 k = c.1 k := by
    intro k q6 q7
    rw [h16, h13]
    show (if k = 7 then _ else if k = 6 then _ else c.1 k) = c.1 k
    rw [if_neg q7, if_neg q6]
  have hS' : SXp s16 P' := by
    refine ⟨fun v hv => ?_, fun e he => ?_, fun e he => ?_, fun v hv => ?_, ?_⟩
    · have := hS1 v hv
      unfold CDX at this ⊢
      rw [fo 3 (by decide) (by decide), fo 2 (by decide) (by decide), fo 4 (by decide) (by decide)]
      exact this
    · rw [f6]
      show (upd (c.1 6) d a1 e).toInt = updI (bc (aP A)) d a1.toInt e
      unfold updI
      by_cases q : e = d
      · rw [q, pk_us, if_pos rfl]
      · rw [pk_un q, if_neg q]; exact hS2 e he
    · rw [f7]
      show (upd (c.1 7) d a2 e).toInt = updI (bp (aP A)) d a2.toInt e
      unfold updI
      by_cases q : e = d
      · rw [q, pk_us, if_pos rfl]
      · rw [pk_un q, if_neg q]; exact hS3 e he
    · rw [fo 9 (by decide) (by decide), fo 10 (by decide) (by decide), fo 11 (by decide) (by decide)]
      exact hS4 v hv
    · rw [fo 12 (by decide) (by decide)]; exact hS5
  have hZ' : Z0 s16 := by
    unfold Z0 at hZ ⊢
    rw [fo 14 (by decide) (by decide), fo 15 (by decide) (by decide), fo 16 (by decide) (by decide), fo 18 (by decide) (by decide)]
    exact hZ
  refine n_chg hA h hRc hP' hS' hZ' (fun s' G ok hh _ _ => ?_)
  obtain ⟨L, len, hT⟩ := h.1
  have hc := (hP.2.1 d hd)
  have hcd : (c.1 6 d).toInt = bc (aP A) d := hS2 d hd
  exact hK _ _ _ _ _ _ (Or.inr ⟨noErr (by rw [hcd]; omega), G, rfl⟩) ok (hh t L len hT)
theorem cx_clear {a0 : Int32} {K : Int32 → RT → Int32 → (Nat → Option Nat) → (Nat → RT) → Prop} (hA : AOK A) (h : HLD A t c r ct kp kr sl sr) (hK : ∀ v A2 c2 ct2 kp2 kr2, RelC A v A2 → AOK A2 → HLD A2 t c2 r ct2 kp2 kr2 sl sr → K v c2 ct2 kp2 kr2) : wp_X9_clear t c r p ct kp kr sl sr a0 K := by
  obtain ⟨g1, g2, g3, g4, g5, g6, g7, hP, hS⟩ := aX hA h
  have bad : K (-2000000001) c ct kp kr := hK _ A _ _ _ _ (Or.inl ⟨err1, rfl⟩) hA h
  refine n_isVariable ⟨fun z => ?_, fun z => bad⟩
  obtain ⟨v, hv, rfl⟩ := wi02 (b2_1.mp z)
  obtain ⟨hS1, hS2, hS3, hS4, hS5⟩ := hS
  have hZ := SxG_Z0 hA.1 h.2.1
  have h6 := (hP.2.2.1 v hv).1
  refine n_rec hA h (fun ct2 kp2 kr2 hRc => n_pick (by decide) (n_put (by decide) ?_))
  rw [pk_n (by decide) hv, pt_n (by decide) hv]
  intro s9 h9
  let P' : PB := ((bL (aP A), bl (aP A)), (bc (aP A), bp (aP A)), (updT (bh (aP A)) v 0, bT (aP A), bV (aP A)), (bS (aP A), bR (aP A), bO (aP A)))
  have hP' : POKp P' := by
    refine ⟨hP.1, hP.2.1, fun e he => ?_, hP.2.2.2⟩
    show updT (bh (aP A)) v 0 e ≤ 6 ∧ (∀ k, k < updT (bh (aP A)) v 0 e → _) ∧ (∀ k, k + 1 < updT (bh (aP A)) v 0 e → _)
    unfold updT
    by_cases q : e = v
    · rw [if_pos q]; exact ⟨by omega, fun k hk => by omega, fun k hk => by omega⟩
    · rw [if_neg q]; exact hP.2.2.1 e he
  have f9 : s9.1 9 = upd (c.1 9) v 0 := by rw [h9]; rfl
  have fo : ∀ k, k ≠ 9 → s9.1 k = c.1 k := fun k q => by rw [h9]; exact if_neg q
  have hS' : SXp s9 P' := by
    refine ⟨fun u hu => ?_, fun e he => by rw [fo 6 (by decide)]; exact hS2 e he, fun e he => by rw [fo 7 (by decide)]; exact hS3 e he, fun u hu => ?_, by rw [fo 12 (by decide)]; exact hS5⟩
    · have := hS1 u hu
      unfold CDX at this ⊢
      rw [fo 3 (by decide), fo 2 (by decide), fo 4 (by decide)]
      exact this
    · rw [f9, fo 10 (by decide), fo 11 (by decide)]
      show upd (c.1 9) v 0 u = nI (updT (bh (aP A)) v 0 u) ∧ ∀ k, k < updT (bh (aP A)) v 0 u → _
      unfold updT
      by_cases q : u = v
      · rw [if_pos q, q, pk_us]; exact ⟨rfl, fun k hk => by omega⟩
      · rw [if_neg q, pk_un q]; exact hS4 u hu
  have hZ' : Z0 s9 := by
    unfold Z0 at hZ ⊢
    rw [fo 14 (by decide), fo 15 (by decide), fo 16 (by decide), fo 18 (by decide)]
    exact hZ
  refine n_chg hA h hRc hP' hS' hZ' (fun s' G ok hh _ _ => ?_)
  obtain ⟨L, len, hT⟩ := h.1
  have hcd : c.1 9 v = nI (bh (aP A) v) := (hS4 v hv).1
  exact hK _ _ _ _ _ _ (Or.inr ⟨noErr (by rw [hcd, nI_int (by omega)]; omega), G, rfl⟩) ok (hh t L len hT)
theorem cx_set {a0 a1 : Int32} {K : Int32 → RT → Int32 → (Nat → Option Nat) → (Nat → RT) → Prop} (hA : AOK A) (h : HLD A t c r ct kp kr sl sr) (hK : ∀ v A2 c2 ct2 kp2 kr2, RelC A v A2 → AOK A2 → HLD A2 t c2 r ct2 kp2 kr2 sl sr → K v c2 ct2 kp2 kr2) : wp_X9_set t c r p ct kp kr sl sr a0 a1 K := by
  obtain ⟨g1, g2, g3, g4, g5, g6, g7, hP, hS⟩ := aX hA h
  have bad : K (-2000000001) c ct kp kr := hK _ A _ _ _ _ (Or.inl ⟨err1, rfl⟩) hA h
  have e0 : (0 : Int32).toInt = 0 := by decide
  refine n_isWithin ⟨fun z => bad, fun z => ?_⟩
  obtain ⟨w, hw, rfl⟩ := wi02 (b2_1.mp z)
  refine n_pickRo (by decide) (n_pickRo (by decide) ?_)
  rw [pk_n (by decide) hw, pk_n (by decide) hw]
  refine n_isWithin ⟨fun y => ?_, fun y => bad⟩
  obtain ⟨hS1, hS2, hS3, hS4, hS5⟩ := hS
  have hZ := SxG_Z0 hA.1 h.2.1
  have hb := wi_eq.mp (b2_1.mp y)
  obtain ⟨x, hx, rfl⟩ : ∃ x : Nat, x < 2147483648 ∧ a1 = nI x := by
    refine nI_of_int ?_
    have : 0 ≤ (fLi w).toInt := by
      unfold fLi
      split <;> decide
    omega
  rw [nI_int hx] at hb
  let P' : PB := ((bL (aP A), bl (aP A)), (bc (aP A), bp (aP A)), (bh (aP A), bT (aP A), bV (aP A)), (if w = 0 then x else bS (aP A), if w = 1 then x else bR (aP A), if w = 2 then x else bO (aP A)))
  have h3 := hP.2.2.2
  have hP' : POKp P' := by
    refine ⟨hP.1, hP.2.1, hP.2.2.1, ?_⟩
    show (20 ≤ (if w = 0 then x else bS (aP A)) ∧ (if w = 0 then x else bS (aP A)) ≤ 500) ∧ (if w = 1 then x else bR (aP A)) ≤ 4 ∧ (if w = 2 then x else bO (aP A)) ≤ 3
    have : w = 0 ∨ w = 1 ∨ w = 2 := by omega
    rcases this with e | e | e
    · subst e
      have e1 : (fLi 0).toInt = 20 := by decide
      have e2 : (fMi 0).toInt = 500 := by decide
      rw [if_pos rfl, if_neg (by decide), if_neg (by decide)]
      omega
    · subst e
      have e2 : (fMi 1).toInt = 4 := by decide
      rw [if_neg (by decide), if_pos rfl, if_neg (by decide)]
      omega
    · subst e
      have e2 : (fMi 2).toInt = 3 := by decide
      rw [if_neg (by decide), if_neg (by decide), if_pos rfl]
      omega
  have set3 : ∀ f : Nat → Int32, (f 0 = nI (bS (aP A)) ∧ f 1 = nI (bR (aP A)) ∧ f 2 = nI (bO (aP A))) → upd f w (nI x) 0 = nI (if w = 0 then x else bS (aP A)) ∧ upd f w (nI x) 1 = nI (if w = 1 then x else bR (aP A)) ∧ upd f w (nI x) 2 = nI (if w = 2 then x else bO (aP A)) := by
    intro f hf
    have : w = 0 ∨ w = 1 ∨ w = 2 := by omega
    rcases this with e | e | e
    · subst e
      rw [if_pos rfl, if_neg (by decide), if_neg (by decide), pk_us, pk_un (by decide), pk_un (by decide)]
      exact ⟨rfl, hf.2⟩
    · subst e
      rw [if_neg (by decide), if_pos rfl, if_neg (by decide), pk_us, pk_un (by decide), pk_un (by decide)]
      exact ⟨hf.1, rfl, hf.2.2⟩
    · subst e
      rw [if_neg (by decide), if_neg (by decide), if_pos rfl, pk_us, pk_un (by decide), pk_un (by decide)]
      exact ⟨hf.1, hf.2.1, rfl⟩
  have hpos : 0 ≤ (c.1 12 w).toInt := by
    have : w = 0 ∨ w = 1 ∨ w = 2 := by omega
    rcases this with e | e | e
    · subst e; rw [hS5.1, nI_int (by omega)]; omega
    · subst e; rw [hS5.2.1, nI_int (by omega)]; omega
    · subst e; rw [hS5.2.2, nI_int (by omega)]; omega
  refine n_rec hA h (fun ct2 kp2 kr2 hRc => n_pick (by decide) (n_put (by decide) ?_))
  rw [pk_n (by decide) hw, pt_n (by decide) hw]
  intro s13 h13
  have f12 : s13.1 12 = upd (c.1 12) w (nI x) := by rw [h13]; rfl
  have fo : ∀ k, k ≠ 12 → s13.1 k = c.1 k := fun k q => by rw [h13]; exact if_neg q
  have hS' : SXp s13 P' := by
    refine ⟨fun u hu => ?_, fun e he => by rw [fo 6 (by decide)]; exact hS2 e he, fun e he => by rw [fo 7 (by decide)]; exact hS3 e he, fun u hu => ?_, ?_⟩
    · have := hS1 u hu
      unfold CDX at this ⊢
      rw [fo 3 (by decide), fo 2 (by decide), fo 4 (by decide)]
      exact this
    · rw [fo 9 (by decide), fo 10 (by decide), fo 11 (by decide)]
      exact hS4 u hu
    · rw [f12]
      exact set3 _ hS5
  have hZ' : Z0 s13 := by
    unfold Z0 at hZ ⊢
    rw [fo 14 (by decide), fo 15 (by decide), fo 16 (by decide), fo 18 (by decide)]
    exact hZ
  refine n_chg hA h hRc hP' hS' hZ' (fun s' G ok hh _ _ => ?_)
  obtain ⟨L, len, hT⟩ := h.1
  exact hK _ _ _ _ _ _ (Or.inr ⟨noErr hpos, G, rfl⟩) ok (hh t L len hT)
theorem cx_point {a0 a1 a2 : Int32} {K : Int32 → RT → Int32 → (Nat → Option Nat) → (Nat → RT) → Prop} (hA : AOK A) (h : HLD A t c r ct kp kr sl sr) (hK : ∀ v A2 c2 ct2 kp2 kr2, RelC A v A2 → AOK A2 → HLD A2 t c2 r ct2 kp2 kr2 sl sr → K v c2 ct2 kp2 kr2) : wp_X9_point t c r p ct kp kr sl sr a0 a1 a2 K := by
  obtain ⟨g1, g2, g3, g4, g5, g6, g7, hP, hS⟩ := aX hA h
  have bad : K (-2000000001) c ct kp kr := hK _ A _ _ _ _ (Or.inl ⟨err1, rfl⟩) hA h
  refine n_isVariable ⟨fun z => bad, fun z => n_isWithin ⟨fun y => bad, fun y => n_isWithin ⟨fun x => ?_, fun x => bad⟩⟩⟩
  obtain ⟨v, hv, rfl⟩ := wi02 (b2_1.mp z)
  have hb1 := wi_eq.mp (b2_1.mp y)
  have hb2 := wi_eq.mp (b2_1.mp x)
  have e0 : (0 : Int32).toInt = 0 := by decide
  have e1 : (-10000 : Int32).toInt = -10000 := by decide
  have e2 : (1000000 : Int32).toInt = 1000000 := by decide
  have e3 : (-1000000 : Int32).toInt = -1000000 := by decide
  obtain ⟨hS1, hS2, hS3, hS4, hS5⟩ := hS
  have hZ := SxG_Z0 hA.1 h.2.1
  have hO := hP.2.2.1
  have h6 := (hO v hv).1
  refine n_hasPoint hS4 hO hv (fun hyes => ⟨fun w => absurd w (by decide), fun _ => hK _ A _ _ _ _ (Or.inl ⟨err2, rfl⟩) hA h⟩) (fun hno => ⟨fun _ => ?_, fun w => absurd rfl w⟩)
  refine n_pick (by decide) ?_
  rw [pk_n (by decide) hv, (hS4 v hv).1]
  refine ⟨fun q => ?_, fun q => hK _ A _ _ _ _ (Or.inl ⟨err3, rfl⟩) hA h⟩
  have hc : bh (aP A) v < 6 := (nI_ltI (b := 6) (by omega) (by decide)).mp q
  refine n_rec hA h (fun ct2 kp2 kr2 hRc => n_addP hS4 hO hv hc (fun s15 hX15 fo => ?_))
  let P' : PB := ((bL (aP A), bl (aP A)), (bc (aP A), bp (aP A)), (updT (bh (aP A)) v (bh (aP A) v + 1), updF (bT (aP A)) v (insI (upT (bT (aP A) v) a1 (bh (aP A) v)) a1 (bT (aP A) v)), updF (bV (aP A)) v (insI (upT (bT (aP A) v) a1 (bh (aP A) v)) a2 (bV (aP A) v))), (bS (aP A), bR (aP A), bO (aP A)))
  have hP' : POKp P' := ⟨hP.1, hP.2.1, HOK_ins (t := a1) (x := a2) hO hv hc (by omega) (by omega) hno, hP.2.2.2⟩
  have hS' : SXp s15 P' := by
    refine ⟨fun w hw => ?_, fun e he => by rw [fo 6 (by decide) (by decide) (by decide)]; exact hS2 e he, fun e he => by rw [fo 7 (by decide) (by decide) (by decide)]; exact hS3 e he, hX15, by rw [fo 12 (by decide) (by decide) (by decide)]; exact hS5⟩
    have := hS1 w hw
    unfold CDX at this ⊢
    rw [fo 3 (by decide) (by decide) (by decide), fo 2 (by decide) (by decide) (by decide), fo 4 (by decide) (by decide) (by decide)]
    exact this
  have hZ' : Z0 s15 := by
    unfold Z0 at hZ ⊢
    rw [fo 14 (by decide) (by decide) (by decide), fo 15 (by decide) (by decide) (by decide), fo 16 (by decide) (by decide) (by decide), fo 18 (by decide) (by decide) (by decide)]
    exact hZ
  refine n_chg hA h hRc hP' hS' hZ' (fun s' G ok hh hs' _ => n_pick (by decide) ?_)
  have hcnt : s'.1 9 v = nI (bh (aP A) v + 1) := by
    rw [(hs'.2.2.2.1 v hv).1]
    show nI (updT (bh (aP A)) v (bh (aP A) v + 1) v) = _
    unfold updT
    rw [if_pos rfl]
  rw [pk_n (by decide) hv, hcnt]
  obtain ⟨L, len, hT⟩ := h.1
  exact hK _ _ _ _ _ _ (Or.inr ⟨noErr (by rw [nI_int (by omega)]; omega), G, rfl⟩) ok (hh t L len hT)
end
