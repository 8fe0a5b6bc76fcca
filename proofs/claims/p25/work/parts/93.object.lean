/-! an object as its caller sees it: the problem that it holds, the kept ones, the saved ones; what its questions answer -/
abbrev AB : Type := Nat × GH × (Nat × (Nat → GH)) × (Nat → Option GH)
def aj (A : AB) : Nat := A.1
def aG (A : AB) : GH := A.2.1
def an (A : AB) : Nat := A.2.2.1.1
def aK (A : AB) : Nat → GH := A.2.2.1.2
def aS (A : AB) : Nat → Option GH := A.2.2.2
def aP (A : AB) : PB := qP (aG A)
noncomputable def aT (A : AB) : PT := pth (aG A)
def AOK (A : AB) : Prop := PrG (aj A) (aG A) ∧ an A ≤ 4 ∧ (∀ i, i < an A → PrG (aj A) (aK A i)) ∧ ∀ i, i < 2 → ∀ g, aS A i = some g → PrG (aj A) g
def TxtX (t : RT) (L : Nat → Nat) (len : Nat) : Prop := LOK L len ∧ t.2.2 1 = nI len ∧ ∀ i, i < len → t.1 1 i = nI (L i)
def KpX (A : AB) (kp : Nat → Option Nat) (kr : Nat → RT) : Prop := ∀ i, i < an A → (∃ b, kp i = some b) ∧ SxG (aK A i) (kr i)
def SlX (A : AB) (sl : Nat → Option Nat) (sr : Nat → RT) : Prop := ∀ i, i < 2 → (sl i = none ∧ aS A i = none) ∨ ((∃ b, sl i = some b) ∧ ∃ g, aS A i = some g ∧ SxG g (sr i))
def HLD (A : AB) (t c r : RT) (ct : Int32) (kp : Nat → Option Nat) (kr : Nat → RT) (sl : Nat → Option Nat) (sr : Nat → RT) : Prop :=
  (∃ L len, TxtX t L len) ∧ SxG (aG A) c ∧ ct = nI (an A) ∧ KpX A kp kr ∧ SlX A sl sr ∧ Z0 r
noncomputable def usW (P : PB) : Nat := Classical.choose (ex_w (usP P))
theorem usW_ok (P : PB) : usW P < 8 ∧ ∀ d, d < 3 → (Ub (usW P) d ↔ usP P d) := Classical.choose_spec (ex_w (usP P))
noncomputable def qr_lag (A : AB) (d t : Int32) : Int32 := if wi d 0 2 = true ∧ wi t 0 8000 = true then lgI (aP A) d.toNatClampNeg t else -2000000001
noncomputable def qr_brk (A : AB) (i w : Int32) : Int32 := if i < 0 ∨ wi w 0 2 = false then -2000000001 else if nI (qn (aG A)) ≤ i ∨ (i = 0 ∧ w = 2) then -2000000004 else if w = 0 then nI (qT (aG A) i.toNatClampNeg) else if w = 1 then nI (qO (aG A) i.toNatClampNeg) else nI (qD (aG A) i.toNatClampNeg)
noncomputable def qr_value (A : AB) (v t : Int32) : Int32 := if wi v 0 2 = true ∧ wi t (-10000) 8000 = true then (if t.toInt ≤ ((aT A).2.1 : Int) then iz (tvZ (aP A) (aT A).1 (aT A).2.2 v.toNatClampNeg t) else -2000000004) else -2000000001
noncomputable def qr_slope (A : AB) (v t : Int32) : Int32 := if wi v 0 2 = true ∧ wi t (-10000) 8000 = true then (if t.toInt ≤ ((aT A).2.1 : Int) then iz (tsZ (aP A) (aT A).1 (aT A).2.2 v.toNatClampNeg t) else -2000000004) else -2000000001
noncomputable def qr_right (A : AB) (v t : Int32) : Int32 := if wi v 0 2 = true ∧ wi t 0 8000 = true then (if t.toInt ≤ ((aT A).2.1 : Int) then iz (stK (aP A) (aT A).1 t.toNatClampNeg (aT A).2.2 v.toNatClampNeg) else -2000000004) else -2000000001
noncomputable def qr_step (A : AB) (k w : Int32) : Int32 := if k < 0 ∨ wi w 0 5 = false then -2000000001 else if nI (aT A).1 ≤ k then -2000000004 else if w = 0 then (aT A).2.2 (k.toNatClampNeg * 8) else if w = 1 then (aT A).2.2 ((k.toNatClampNeg + 1) * 8) - (aT A).2.2 (k.toNatClampNeg * 8) else if w = 5 then (aT A).2.2 (k.toNatClampNeg * 8 + 7) else (aT A).2.2 (k.toNatClampNeg * 8 + 4 + (w.toNatClampNeg - 2))
noncomputable def tvA (A : AB) (v t : Nat) : Int := tvZ (aP A) (aT A).1 (aT A).2.2 v (nI t)
noncomputable def qr_cross (A : AB) (v lv f : Int32) : Int32 := if wi v 0 2 = true ∧ wi lv (-1000000000) 1000000000 = true ∧ wi f 1 8000 = true then crN (tvA A v.toNatClampNeg) lv.toInt (aT A).2.1 8001 f.toNatClampNeg else -2000000001
noncomputable def grA (A : AB) (v f o : Nat) : Nat := gtN (tvA A v) o 8002 (f + 1) f
noncomputable def qr_great (A : AB) (v f o w : Int32) : Int32 := if wi v 0 2 = true ∧ wi f 0 8000 = true ∧ wi o f 8000 = true ∧ wi w 0 1 = true then (if o.toInt ≤ ((aT A).2.1 : Int) then (if w = 0 then iz (tvA A v.toNatClampNeg (grA A v.toNatClampNeg f.toNatClampNeg o.toNatClampNeg)) else nI (grA A v.toNatClampNeg f.toNatClampNeg o.toNatClampNeg)) else -2000000004) else -2000000001
def stepP (P : PB) (a : Nat) : PB := ((bL P, bl P), (bc P, bp P), (bh P, bT P, bV P), (a, bR P, bO P))
noncomputable def trT (A : AB) (a : Nat) : PT := goN (stepP (aP A) a) (qT (aG A)) (qn (aG A)) 8000 (aT A).2.1 (0, 0, g00 (stepP (aP A) a))
noncomputable def qr_diff (A : AB) (a : Int32) : Int32 := if wi a 20 500 = true then iz (hdI (mxI (fun v => stX (trT A a.toNatClampNeg).2.2 (trT A a.toNatClampNeg).1 v - stX (aT A).2.2 (aT A).1 v) 3)) else -2000000001
noncomputable def qr_count (A : AB) (a : Int32) : Int32 :=
  if a = 0 then nI (bS (aP A)) else if a = 1 then nI (bR (aP A)) else if a = 2 then nI (bO (aP A)) else if a = 3 then nI (aT A).2.1 else if a = 4 then nI (aT A).1 else if a = 5 then nI (qn (aG A)) else if a = 7 then nI (an A) else if a = 8 then nI (bh (aP A) 0) else if a = 9 then nI (bh (aP A) 1) else if a = 10 then nI (bh (aP A) 2) else if a = 11 then iz (bp (aP A) 0) else if a = 12 then iz (bp (aP A) 1) else if a = 13 then iz (bp (aP A) 2) else if a = 14 then nI (usW (aP A)) else -2000000001
section
variable {A : AB} {t c r p : RT} {ct : Int32} {kp sl : Nat → Option Nat} {kr sr : Nat → RT}
theorem aX (hA : AOK A) (h : HLD A t c r ct kp kr sl sr) : (aT A).2.2 ((aT A).1 * 8) = nI (aT A).2.1 ∧ (aT A).2.1 ≤ 8000 ∧ c.2.2 1 = nI (aT A).1 ∧ (aT A).1 < 952 ∧ PX c (aT A).1 (aT A).2.2 ∧ POK (aT A).1 (aT A).2.2 ∧ Row0 (aP A) (aT A).2.2 ∧ POKp (aP A) ∧ SXp c (aP A) := ⟨(pth_ok hA.1).2.2.1, (pth_ok hA.1).2.2.2.1, h.2.1.2.2.1, pth_n hA.1, h.2.1.2.2, (pth_ok hA.1).1, (pth_ok hA.1).2.1, hA.1.1, h.2.1.1⟩
theorem wi_no {x lo hi : Int32} (h : b2 (wi x lo hi) = 0) : wi x lo hi = false := b2_0.mp h
theorem cx_lag {a0 a1 : Int32} {K : Int32 → Prop} (hA : AOK A) (h : HLD A t c r ct kp kr sl sr) (hK : K (qr_lag A a0 a1)) : wp_X9_lag t c r p ct kp kr sl sr a0 a1 K := by
  unfold qr_lag at hK
  refine n_isDelay ⟨fun z => ?_, fun z => n_isWithin ⟨fun y => ?_, fun y => ?_⟩⟩
  · rw [if_neg (fun w => by rw [wi_no z] at w; exact absurd w.1 (by decide))] at hK
    exact hK
  · rw [if_pos ⟨b2_1.mp z, b2_1.mp y⟩] at hK
    obtain ⟨d, hd, rfl⟩ := wi02 (b2_1.mp z)
    have hb := wi_eq.mp (b2_1.mp y)
    have e0 : (0 : Int32).toInt = 0 := by decide
    have e8 : (8000 : Int32).toInt = 8000 := by decide
    rw [nI_clamp (by omega)] at hK
    exact n_lagX hA.1.1.2.1 h.2.1.1.2.1 h.2.1.1.2.2.1 hd (by omega) (by omega) hK
  · rw [if_neg (fun w => by rw [wi_no y] at w; exact absurd w.2 (by decide))] at hK
    exact hK
theorem cx_value {a0 a1 : Int32} {K : Int32 → Prop} (hA : AOK A) (h : HLD A t c r ct kp kr sl sr) (hK : K (qr_value A a0 a1)) : wp_X9_value t c r p ct kp kr sl sr a0 a1 K := by
  obtain ⟨g1, g2, g3, g4, g5, g6, g7, hP, hS⟩ := aX hA h
  have ge : (nI (aT A).2.1).toInt = ((aT A).2.1 : Int) := nI_int (by omega)
  unfold qr_value at hK
  refine n_isVariable ⟨fun z => ?_, fun z => n_isWithin ⟨fun y => ?_, fun y => ?_⟩⟩
  · rw [if_neg (fun w => by rw [wi_no z] at w; exact absurd w.1 (by decide))] at hK
    exact hK
  · rw [if_pos ⟨b2_1.mp z, b2_1.mp y⟩] at hK
    obtain ⟨v, hv, rfl⟩ := wi02 (b2_1.mp z)
    rw [nI_clamp (by omega)] at hK
    refine n_stepTo g5 g6 (n_endTime g5 (by omega) g1 ⟨fun q => ?_, fun q => ?_⟩)
    · have qi := i_le.mp q
      rw [if_pos (by omega)] at hK
      exact n_valueIn hS.2.2.2.1 hP.2.2.1 g5 g6 hv (by rw [g1]; exact qi) hK
    · rw [if_neg (fun w => q (i_le.mpr (by omega)))] at hK
      exact hK
  · rw [if_neg (fun w => by rw [wi_no y] at w; exact absurd w.2 (by decide))] at hK
    exact hK
theorem cx_slope {a0 a1 : Int32} {K : Int32 → Prop} (hA : AOK A) (h : HLD A t c r ct kp kr sl sr) (hK : K (qr_slope A a0 a1)) : wp_X9_slope t c r p ct kp kr sl sr a0 a1 K := by
  obtain ⟨g1, g2, g3, g4, g5, g6, g7, hP, hS⟩ := aX hA h
  have ge : (nI (aT A).2.1).toInt = ((aT A).2.1 : Int) := nI_int (by omega)
  unfold qr_slope at hK
  refine n_isVariable ⟨fun z => ?_, fun z => n_isWithin ⟨fun y => ?_, fun y => ?_⟩⟩
  · rw [if_neg (fun w => by rw [wi_no z] at w; exact absurd w.1 (by decide))] at hK
    exact hK
  · rw [if_pos ⟨b2_1.mp z, b2_1.mp y⟩] at hK
    obtain ⟨v, hv, rfl⟩ := wi02 (b2_1.mp z)
    rw [nI_clamp (by omega)] at hK
    refine n_stepTo g5 g6 (n_endTime g5 (by omega) g1 ⟨fun q => ?_, fun q => ?_⟩)
    · have qi := i_le.mp q
      rw [if_pos (by omega)] at hK
      exact n_slopeIn hS.2.2.2.1 hP.2.2.1 g5 g6 hv (by rw [g1]; exact qi) hK
    · rw [if_neg (fun w => q (i_le.mpr (by omega)))] at hK
      exact hK
  · rw [if_neg (fun w => by rw [wi_no y] at w; exact absurd w.2 (by decide))] at hK
    exact hK
theorem cx_rightAt {a0 a1 : Int32} {K : Int32 → RT → Prop} (hA : AOK A) (h : HLD A t c r ct kp kr sl sr) (hK : ∀ p2, K (qr_right A a0 a1) p2) : wp_X9_rightAt t c r p ct kp kr sl sr a0 a1 K := by
  obtain ⟨g1, g2, g3, g4, g5, g6, g7, hP, hS⟩ := aX hA h
  have ge : (nI (aT A).2.1).toInt = ((aT A).2.1 : Int) := nI_int (by omega)
  have e0 : (0 : Int32).toInt = 0 := by decide
  have e8 : (8000 : Int32).toInt = 8000 := by decide
  unfold qr_right at hK
  refine n_isVariable ⟨fun z => ?_, fun z => n_isWithin ⟨fun y => ?_, fun y => ?_⟩⟩
  · rw [if_neg (fun w => by rw [wi_no z] at w; exact absurd w.1 (by decide))] at hK
    exact hK _
  · rw [if_pos ⟨b2_1.mp z, b2_1.mp y⟩] at hK
    obtain ⟨v, hv, rfl⟩ := wi02 (b2_1.mp z)
    have hb := wi_eq.mp (b2_1.mp y)
    obtain ⟨f, hf, rfl⟩ := nI_of_int (x := a1) (by omega)
    rw [nI_int hf] at hb hK
    rw [nI_clamp (show v < 2147483648 by omega), nI_clamp hf] at hK
    refine n_endTime g5 (by omega) g1 ⟨fun q => ?_, fun q => ?_⟩
    · have hfe := (nI_leI (by omega) (by omega)).mp q
      rw [if_pos (by omega)] at hK
      exact n_rightSide hP hS g5 g6 (by omega) (by rw [g1, ge]; omega) hv hK
    · rw [if_neg (fun w => q (nI_le (by omega) (by omega)))] at hK
      exact hK _
  · rw [if_neg (fun w => by rw [wi_no y] at w; exact absurd w.2 (by decide))] at hK
    exact hK _
theorem cx_step {a0 a1 : Int32} {K : Int32 → Prop} (hA : AOK A) (h : HLD A t c r ct kp kr sl sr) (hK : K (qr_step A a0 a1)) : wp_X9_step t c r p ct kp kr sl sr a0 a1 K := by
  obtain ⟨g1, g2, g3, g4, g5, g6, g7, hP, hS⟩ := aX hA h
  unfold qr_step at hK
  refine ⟨fun z => ?_, fun z => n_isWithin ⟨fun y => ?_, fun y => ?_⟩⟩
  · rw [if_pos (Or.inl z)] at hK
    exact hK
  · rw [if_neg (fun w => w.elim z (fun w => by rw [b2_1.mp y] at w; exact absurd w (by decide)))] at hK
    obtain ⟨k, hk, rfl⟩ := nI_of z
    have hb := wi_eq.mp (b2_1.mp y)
    have e0 : (0 : Int32).toInt = 0 := by decide
    have e5 : (5 : Int32).toInt = 5 := by decide
    obtain ⟨w, hw, rfl⟩ := nI_of_int (x := a1) (by omega)
    rw [nI_int hw] at hb
    rw [nI_clamp hk, nI_clamp hw] at hK
    rw [g3]
    refine ⟨fun q => ?_, fun q => ?_⟩
    · have hkn := (nI_ltI (by omega) (by omega)).mp q
      rw [if_neg (fun w2 => by have := (nI_leI (by omega) (by omega)).mp w2; omega)] at hK
      refine ⟨fun a => ⟨fun b => ⟨fun d => ?_, fun d => ?_⟩, fun b => ?_⟩, fun a => ?_⟩
      · have w0 : w ≠ 0 := fun e => a (by rw [e]; rfl)
        have w1 : w ≠ 1 := fun e => b (by rw [e]; rfl)
        have w5 : w ≠ 5 := fun e => d (by rw [e]; rfl)
        rw [if_neg a, if_neg b, if_neg d] at hK
        unfold wp_X4_firstSlope
        rw [show nI w - (2 : Int32) = nI (w - 2) by rw [show (2 : Int32) = nI 2 from rfl, pk_sub (by omega)], ix8, ix84]
        refine n_pick (by decide) ?_
        rw [pk_n (by decide) (by omega), g5.2 _ (by omega)]
        exact hK
      · rw [if_neg a, if_neg b, if_pos d] at hK
        unfold wp_X4_roundsOf
        rw [ix8, show nI (k * 8) + (7 : Int32) = nI (k * 8 + 7) by rw [show (7 : Int32) = nI 7 from rfl, nI_add]]
        refine n_pick (by decide) ?_
        rw [pk_n (by decide) (by omega), g5.2 _ (by omega)]
        exact hK
      · rw [if_neg a, if_pos b] at hK
        unfold wp_X4_endOf wp_X4_beginOf
        rw [ix8n, ix8]
        refine n_pick (by decide) (n_pick (by decide) ?_)
        rw [pk_n (by decide) (by omega), g5.2 _ (by omega), pk_n (by decide) (by omega), g5.2 _ (by omega)]
        exact hK
      · rw [if_pos a] at hK
        unfold wp_X4_beginOf
        rw [ix8]
        refine n_pick (by decide) ?_
        rw [pk_n (by decide) (by omega), g5.2 _ (by omega)]
        exact hK
    · have : nI (aT A).1 ≤ nI k := nI_le (by
        rcases Nat.lt_or_ge k (aT A).1 with w2 | w2
        · exact absurd (nI_lt w2 (by omega)) q
        · exact w2) (by omega)
      rw [if_pos this] at hK
      exact hK
  · rw [if_pos (Or.inr (wi_no y))] at hK
    exact hK
end
