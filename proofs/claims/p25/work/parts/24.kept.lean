/-! the kept and the saved states -/
section
variable {w : HW} {x : Nat} {t c r p : RT} {ct : Int32} {kp sl : Nat → Option Nat} {kr sr : Nat → RT}
theorem out_putL {x b n : Nat} {wa w : HW} {g : Nat → Cel} (h : Out x wa w) (hb : x + 33 ≤ b) : Out x wa (put w b n g) := by
  refine ⟨h.1, fun q hq => ?_⟩
  have e : ¬ (b ≤ q ∧ q < b + n) := by omega
  rw [← h.2 q hq]
  show (if b ≤ q ∧ q < b + n then some (g (q - b)) else w.1 q) = w.1 q
  rw [if_neg e]
theorem out_grow {x : Nat} {wa w : HW} {g : Nat → Cel} (h : Out x wa w) (hb : x + 33 ≤ w.2) : Out x wa (put (w.1, w.2 + 19) w.2 19 g) := by
  refine ⟨Nat.le_trans h.1 (Nat.le_add_right _ _), fun q hq => ?_⟩
  have e : ¬ (w.2 ≤ q ∧ q < w.2 + 19) := by omega
  rw [← h.2 q hq]
  show (if w.2 ≤ q ∧ q < w.2 + 19 then some (g (q - w.2)) else w.1 q) = w.1 q
  rw [if_neg e]
theorem lz_putL {b a : Nat} {s s2 : RT} (h : lzS w x b s) (ha : apart a b) : lzS (put w a 19 (shS a s2)) x b s := ⟨h.1, h.2.1, has_out ha h.2.2⟩
theorem lz_self {b : Nat} {s s2 : RT} (h : lzS w x b s) : lzS (put w b 19 (shS b s2)) x b s2 := ⟨h.1, h.2.1, has_self⟩
theorem apart_symm {a b : Nat} (h : apart a b) : apart b a := h.elim Or.inr Or.inl
theorem tz_mvA {b : Nat} {s : RT} (h : TZ w x r kp sl) (hx : x + 33 ≤ b) (ha : ∀ b0, trv w x = .ref b0 → apart b0 b) : TZ (put w b 19 (shS b s)) x r kp sl := by
  rcases h with ⟨h1, h2⟩ | ⟨b0, h1, h2, h3⟩
  · exact Or.inl ⟨(trv_eq (put_q (by omega))).trans h1, h2⟩
  · exact Or.inr ⟨b0, (trv_eq (put_q (by omega))).trans h1, lz_putL h2 (apart_symm (ha b0 h1)), h3⟩
theorem tz_mvK {b i : Nat} {s : RT} (h : TZ w x r kp sl) (hi : i < 4) (hb : kp i = some b) (hx : x + 33 ≤ b) : TZ (put w b 19 (shS b s)) x r kp sl := tz_mvA h hx (fun b0 e => by
  rcases h with ⟨h1, _⟩ | ⟨b1, h1, _, h3, _⟩
  · rw [h1] at e; cases e
  · rw [h1] at e; cases e; exact h3 i b hi hb)
theorem tz_mvZ {b i : Nat} {s : RT} (h : TZ w x r kp sl) (hi : i < 2) (hb : sl i = some b) (hx : x + 33 ≤ b) : TZ (put w b 19 (shS b s)) x r kp sl := tz_mvA h hx (fun b0 e => by
  rcases h with ⟨h1, _⟩ | ⟨b1, h1, _, _, h4⟩
  · rw [h1] at e; cases e
  · rw [h1] at e; cases e; exact h4 i b hi hb)
theorem tz_newK {i : Nat} (h : TZ w x r kp sl) {z : Nat} (hz : ∀ b s, lzS w x b s → b + 19 ≤ z) : TZ w x r (va_up kp i (some z)) sl := by
  rcases h with h | ⟨b0, h1, h2, h3, h4⟩
  · exact Or.inl h
  · refine Or.inr ⟨b0, h1, h2, fun j c hj hc => ?_, h4⟩
    by_cases e : j = i
    · simp only [va_up, e, if_true] at hc
      cases hc
      exact Or.inl (hz b0 r h2)
    · simp only [va_up, e, if_false] at hc
      exact h3 j c hj hc
theorem tz_newZ {i : Nat} (h : TZ w x r kp sl) {z : Nat} (hz : ∀ b s, lzS w x b s → b + 19 ≤ z) : TZ w x r kp (va_up sl i (some z)) := by
  rcases h with h | ⟨b0, h1, h2, h3, h4⟩
  · exact Or.inl h
  · refine Or.inr ⟨b0, h1, h2, h3, fun j c hj hc => ?_⟩
    by_cases e : j = i
    · simp only [va_up, e, if_true] at hc
      cases hc
      exact Or.inl (hz b0 r h2)
    · simp only [va_up, e, if_false] at hc
      exact h4 j c hj hc
theorem XW.low (h : XW w x t c r p ct kp kr sl sr) {b : Nat} {s : RT} (hb : x + 33 ≤ b) {r2 : RT} (ht : TZ (put w b 19 (shS b s)) x r2 kp sl) {kr2 sr2 : Nat → RT} (hz : LZ (put w b 19 (shS b s)) x kp kr2 sl sr2) : XW (put w b 19 (shS b s)) x t c r2 p ct kp kr2 sl sr2 :=
  ⟨ob_mv h.1 (put_q (by omega)), has_out (by omega) h.hT, has_out (by omega) h.hC, ht, has_out (by omega) h.hP, put_out (by omega) h.hK0, put_out (by omega) h.hK1, put_out (by omega) h.hZ, hz, h.h2⟩
theorem XW.updK (h : XW w x t c r p ct kp kr sl sr) {i b : Nat} (hi : i < 4) (hb : kp i = some b) {s : RT} : XW (put w b 19 (shS b s)) x t c r p ct kp (va_up kr i s) sl sr := by
  obtain ⟨l1, l2, l3, l4, l5⟩ := h.hL
  refine h.low (l1 i b hi hb).1 (tz_mvK h.hR hi hb (l1 i b hi hb).1) ⟨fun j b2 hj hb2 => ?_, fun j b2 hj hb2 => lz_putL (l2 j b2 hj hb2) (l5 i j b b2 hi hj hb hb2), l3, l4, l5⟩
  by_cases e : j = i
  · subst e
    have : b2 = b := Option.some.inj (hb2.symm.trans hb)
    subst this
    simp only [va_up, if_true]
    exact lz_self (l1 j b2 hj hb2)
  · simp only [va_up, e, if_false]
    exact lz_putL (l1 j b2 hj hb2) (l3 i j b b2 hi hj (Ne.symm e) hb hb2)
theorem XW.updZ (h : XW w x t c r p ct kp kr sl sr) {i b : Nat} (hi : i < 2) (hb : sl i = some b) {s : RT} : XW (put w b 19 (shS b s)) x t c r p ct kp kr sl (va_up sr i s) := by
  obtain ⟨l1, l2, l3, l4, l5⟩ := h.hL
  refine h.low (l2 i b hi hb).1 (tz_mvZ h.hR hi hb (l2 i b hi hb).1) ⟨fun j b2 hj hb2 => lz_putL (l1 j b2 hj hb2) (apart_symm (l5 j i b2 b hj hi hb2 hb)), fun j b2 hj hb2 => ?_, l3, l4, l5⟩
  by_cases e : j = i
  · subst e
    have : b2 = b := Option.some.inj (hb2.symm.trans hb)
    subst this
    simp only [va_up, if_true]
    exact lz_self (l2 j b2 hj hb2)
  · simp only [va_up, e, if_false]
    exact lz_putL (l2 j b2 hj hb2) (l4 i j b b2 hi hj (Ne.symm e) hb hb2)
theorem grow_out {q : Nat} {g : Nat → Cel} {cc : Cel} (hq : q < w.2) (h : w.1 q = some cc) : (put ((w.1, w.2 + 19) : HW) w.2 19 g).1 q = some cc := put_out (w := (w.1, w.2 + 19)) (Or.inl hq) h
theorem grow_has {b n : Nat} {g g' : Nat → Cel} (hb : b + n ≤ w.2) (h : Has w b n g) : Has (put ((w.1, w.2 + 19) : HW) w.2 19 g') b n g := fun k hk => grow_out (by omega) (h k hk)
theorem lz_grow {b : Nat} {s : RT} {g : Nat → Cel} (h : lzS w x b s) : lzS (put ((w.1, w.2 + 19) : HW) w.2 19 g) x b s := ⟨h.1, Nat.le_trans h.2.1 (Nat.le_add_right _ _), grow_has h.2.1 h.2.2⟩
theorem XW.grow (h : XW w x t c r p ct kp kr sl sr) {g : Nat → Cel} : XW (put (w.1, w.2 + 19) w.2 19 g) x t c r p ct kp kr sl sr := by
  have h2 := h.h2
  obtain ⟨l1, l2, l3⟩ := h.hL
  exact ⟨ob_mv h.1 (put_q (w := (w.1, w.2 + 19)) (by omega)), grow_has (by omega) h.hT, grow_has (by omega) h.hC, h.hR.mv (put_q (w := (w.1, w.2 + 19)) (by omega)) (fun _ _ => lz_grow), grow_has (by omega) h.hP, grow_out (by omega) h.hK0, grow_out (by omega) h.hK1, grow_out (by omega) h.hZ, ⟨fun j b hj hb => lz_grow (l1 j b hj hb), fun j b hj hb => lz_grow (l2 j b hj hb), l3⟩, Nat.le_trans h2 (Nat.le_add_right _ _)⟩
theorem XW.addK (h : XW w x t c r p ct kp kr sl sr) {i : Nat} (hi : i < 4) {s : RT} : XW (hset (put (w.1, w.2 + 19) w.2 19 (shS w.2 s)) (x + 23 + 1) (cR 4 (va_up kp i (some w.2)))) x t c r p ct (va_up kp i (some w.2)) (va_up kr i s) sl sr := by
  have h2 := h.h2
  have hg := h.grow (g := shS w.2 s)
  obtain ⟨l1, l2, l3, l4, l5⟩ := h.hL
  have new : lzS (put ((w.1, w.2 + 19) : HW) w.2 19 (shS w.2 s)) x w.2 s := ⟨h2, Nat.le_refl _, has_self⟩
  refine hg.setKp (kr2 := va_up kr i s) (ht := (tz_newK h.hR (z := w.2) (fun _ _ hz => hz.2.1)).mv (put_q (w := (w.1, w.2 + 19)) (by omega)) (fun _ _ => lz_grow)) ⟨fun j b hj hb => ?_, fun j b hj hb => lz_grow (l2 j b hj hb), fun j j2 b b2 hj hj2 hne hb hb2 => ?_, l4, fun j j2 b b2 hj hj2 hb hb2 => ?_⟩
  · by_cases e : j = i
    · subst e
      simp only [va_up, if_true] at hb ⊢
      cases hb
      exact new
    · simp only [va_up, e, if_false] at hb ⊢
      exact lz_grow (l1 j b hj hb)
  · by_cases e : j = i <;> by_cases e2 : j2 = i
    · exact absurd (e.trans e2.symm) hne
    · simp only [va_up, e, e2, if_true, if_false] at hb hb2
      cases hb
      exact Or.inr (l1 j2 b2 hj2 hb2).2.1
    · simp only [va_up, e, e2, if_true, if_false] at hb hb2
      cases hb2
      exact Or.inl (l1 j b hj hb).2.1
    · simp only [va_up, e, e2, if_false] at hb hb2
      exact l3 j j2 b b2 hj hj2 hne hb hb2
  · by_cases e : j = i
    · simp only [va_up, e, if_true] at hb
      cases hb
      exact Or.inr (l2 j2 b2 hj2 hb2).2.1
    · simp only [va_up, e, if_false] at hb
      exact l5 j j2 b b2 hj hj2 hb hb2
theorem XW.addZ (h : XW w x t c r p ct kp kr sl sr) {i : Nat} (hi : i < 2) {s : RT} : XW (hset (put (w.1, w.2 + 19) w.2 19 (shS w.2 s)) (x + 25) (cR 2 (va_up sl i (some w.2)))) x t c r p ct kp kr (va_up sl i (some w.2)) (va_up sr i s) := by
  have h2 := h.h2
  have hg := h.grow (g := shS w.2 s)
  obtain ⟨l1, l2, l3, l4, l5⟩ := h.hL
  have new : lzS (put ((w.1, w.2 + 19) : HW) w.2 19 (shS w.2 s)) x w.2 s := ⟨h2, Nat.le_refl _, has_self⟩
  refine hg.setZ (sr2 := va_up sr i s) (ht := (tz_newZ h.hR (z := w.2) (fun _ _ hz => hz.2.1)).mv (put_q (w := (w.1, w.2 + 19)) (by omega)) (fun _ _ => lz_grow)) ⟨fun j b hj hb => lz_grow (l1 j b hj hb), fun j b hj hb => ?_, l3, fun j j2 b b2 hj hj2 hne hb hb2 => ?_, fun j j2 b b2 hj hj2 hb hb2 => ?_⟩
  · by_cases e : j = i
    · subst e
      simp only [va_up, if_true] at hb ⊢
      cases hb
      exact new
    · simp only [va_up, e, if_false] at hb ⊢
      exact lz_grow (l2 j b hj hb)
  · by_cases e : j = i <;> by_cases e2 : j2 = i
    · exact absurd (e.trans e2.symm) hne
    · simp only [va_up, e, e2, if_true, if_false] at hb hb2
      cases hb
      exact Or.inr (l2 j2 b2 hj2 hb2).2.1
    · simp only [va_up, e, e2, if_true, if_false] at hb hb2
      cases hb2
      exact Or.inl (l2 j b hj hb).2.1
    · simp only [va_up, e, e2, if_false] at hb hb2
      exact l4 j j2 b b2 hj hj2 hne hb hb2
  · by_cases e : j2 = i
    · simp only [va_up, e, if_true] at hb2
      cases hb2
      exact Or.inl (l1 j b hj hb).2.1
    · simp only [va_up, e, if_false] at hb2
      exact l5 j j2 b b2 hj hj2 hb hb2
def rotK (kp : Nat → Option Nat) : Nat → Option Nat := va_up (va_up (va_up (va_up kp 0 (kp 1)) 1 (kp 2)) 2 (kp 3)) 3 (kp 0)
def rotR (kr : Nat → RT) : Nat → RT := fun j => kr (if j = 3 then 0 else j + 1)
theorem rotK_at (kp : Nat → Option Nat) {j : Nat} (hj : j < 4) : rotK kp j = kp (if j = 3 then 0 else j + 1) := by
  match j, hj with
  | 0, _ => rfl
  | 1, _ => rfl
  | 2, _ => rfl
  | 3, _ => rfl
theorem rot_in {j : Nat} (hj : j < 4) : (if j = 3 then 0 else j + 1) < 4 := by split <;> omega
theorem tz_rot (h : TZ w x r kp sl) : TZ w x r (rotK kp) sl := by
  rcases h with h | ⟨b0, h1, h2, h3, h4⟩
  · exact Or.inl h
  · exact Or.inr ⟨b0, h1, h2, fun j c hj hc => h3 _ c (rot_in hj) (by rw [rotK_at kp hj] at hc; exact hc), h4⟩
theorem XW.rot (h : XW w x t c r p ct kp kr sl sr) : XW (hset w (x + 23 + 1) (cR 4 (rotK kp))) x t c r p ct (rotK kp) (rotR kr) sl sr := by
  obtain ⟨l1, l2, l3, l4, l5⟩ := h.hL
  refine h.setKp (ht := tz_rot h.hR) ⟨fun j b hj hb => ?_, l2, fun j j2 b b2 hj hj2 hne hb hb2 => ?_, l4, fun j j2 b b2 hj hj2 hb hb2 => ?_⟩
  · rw [rotK_at kp hj] at hb; exact l1 _ b (rot_in hj) hb
  · rw [rotK_at kp hj] at hb; rw [rotK_at kp hj2] at hb2
    exact l3 _ _ b b2 (rot_in hj) (rot_in hj2) (by split <;> split <;> omega) hb hb2
  · rw [rotK_at kp hj] at hb; exact l5 _ j2 b b2 (rot_in hj) hj2 hb hb2
/-- the trial state where it was made -/
def XB (w : HW) (x b : Nat) (t c r p : RT) (ct : Int32) (kp : Nat → Option Nat) (kr : Nat → RT) (sl : Nat → Option Nat) (sr : Nat → RT) : Prop := XW w x t c r p ct kp kr sl sr ∧ trv w x = .ref b
theorem XB.tz {b : Nat} (h : XB w x b t c r p ct kp kr sl sr) : lzS w x b r ∧ (∀ j c, j < 4 → kp j = some c → apart b c) ∧ (∀ j c, j < 2 → sl j = some c → apart b c) := by
  rcases h.1.hR with ⟨h1, _⟩ | ⟨b1, h1, h2⟩
  · rw [h.2] at h1; cases h1
  · rw [h.2] at h1; cases h1; exact h2
theorem XB.hT {b : Nat} (h : XB w x b t c r p ct kp kr sl sr) : Has w (x + 1) 3 (shT (x + 1) t) := h.1.hT
theorem XB.hC {b : Nat} (h : XB w x b t c r p ct kp kr sl sr) : Has w (x + 4) 19 (shS (x + 4) c) := h.1.hC
theorem XB.hR {b : Nat} (h : XB w x b t c r p ct kp kr sl sr) : Has w b 19 (shS b r) := h.tz.1.2.2
theorem XB.hP {b : Nat} (h : XB w x b t c r p ct kp kr sl sr) : Has w (x + 26) 7 (shP (x + 26) p) := h.1.hP
theorem XB.lb {b : Nat} (h : XB w x b t c r p ct kp kr sl sr) : x + 33 ≤ b := h.tz.1.1
theorem XB.setP {b : Nat} {z : RT} (h : XB w x b t c r p ct kp kr sl sr) : XB (put w (x + 26) 7 (shP (x + 26) z)) x b t c r z ct kp kr sl sr := ⟨h.1.setP, (trv_eq (put_q (by omega))).trans h.2⟩
theorem XB.setR {b : Nat} {z : RT} (h : XB w x b t c r p ct kp kr sl sr) : XB (put w b 19 (shS b z)) x b t c z p ct kp kr sl sr := by
  obtain ⟨⟨z1, z2, z3⟩, h3, h4⟩ := h.tz
  obtain ⟨l1, l2, l3, l4, l5⟩ := h.1.hL
  have et : trv (put w b 19 (shS b z)) x = .ref b := (trv_eq (put_q (by omega))).trans h.2
  exact ⟨h.1.low z1 (Or.inr ⟨b, et, ⟨z1, z2, has_self⟩, h3, h4⟩) ⟨fun j c hj hc => lz_putL (l1 j c hj hc) (h3 j c hj hc), fun j c hj hc => lz_putL (l2 j c hj hc) (h4 j c hj hc), l3, l4, l5⟩, et⟩
theorem XB.make (h : XW w x t c r p ct kp kr sl sr) (hn : trv w x = .null) : r = s0S ∧ XB (hset (put (w.1, w.2 + 19) w.2 19 (shS w.2 s0S)) x (ob9 x (.ref w.2))) x w.2 t c r p ct kp kr sl sr := by
  have e : r = s0S := by
    rcases h.hR with ⟨_, h2⟩ | ⟨b0, h1, _⟩
    · exact h2
    · rw [hn] at h1; cases h1
  refine ⟨e, ?_⟩
  subst e
  have h2 := h.h2
  obtain ⟨l1, l2, l3, l4, l5⟩ := h.hL
  have hg := h.grow (g := shS w.2 s0S)
  generalize hw : put ((w.1, w.2 + 19) : HW) w.2 19 (shS w.2 s0S) = w1 at hg
  have new : lzS w1 x w.2 s0S := by rw [← hw]; exact ⟨h2, Nat.le_refl _, has_self⟩
  have et : trv (hset w1 x (ob9 x (.ref w.2))) x = .ref w.2 := by simp [trv, hset, ob9]
  have mv : ∀ b s, lzS w1 x b s → lzS (hset w1 x (ob9 x (.ref w.2))) x b s := fun b s hz => hz.hset (by omega)
  obtain ⟨m1, m2, m3⟩ := hg.hL
  exact ⟨⟨by rw [et]; exact hset_at, has_hset (by omega) hg.hT, has_hset (by omega) hg.hC, Or.inr ⟨w.2, et, mv _ _ new, fun j c hj hc => Or.inr (l1 j c hj hc).2.1, fun j c hj hc => Or.inr (l2 j c hj hc).2.1⟩, has_hset (by omega) hg.hP, hset_ne (by omega) hg.hK0, hset_ne (by omega) hg.hK1, hset_ne (by omega) hg.hZ, ⟨fun j b hj hb => mv _ _ (m1 j b hj hb), fun j b hj hb => mv _ _ (m2 j b hj hb), m3⟩, hg.h2⟩, et⟩
end
section
variable {G : GX} {l : Launch} {M : MD} {d mc ms k n pc : Nat} {lv : List (Nat × Value)} {st : List Value} {w : HW} {Q : Option Value → HW → Prop}
theorem x_aaldS {a z b : Nat} {f : Nat → Option Nat} {i : Int32} (j : Nat) (hj : i.toNatClampNeg = j) (hb : f j = some b) (ha : w.1 a = some (cR z f)) (hin : vp_in i z) (hdg : decode M.2.1 pc = .ok (.aaload, 1)) (kk : X G l M d mc ms k n (pc + 1) lv (.ref b :: st) w Q) : X G l M d mc ms k n pc lv (.int i :: .ref a :: st) w Q := by
  refine x_aald ha hin hdg ?_
  rw [hj, hb]
  exact kk
theorem x_aaldN {a z : Nat} {f : Nat → Option Nat} {i : Int32} (j : Nat) (hj : i.toNatClampNeg = j) (hb : f j = none) (ha : w.1 a = some (cR z f)) (hin : vp_in i z) (hdg : decode M.2.1 pc = .ok (.aaload, 1)) (kk : X G l M d mc ms k n (pc + 1) lv (.null :: st) w Q) : X G l M d mc ms k n pc lv (.int i :: .ref a :: st) w Q := by
  refine x_aald ha hin hdg ?_
  rw [hj, hb]
  exact kk
theorem x_aastE {a z v : Nat} {f : Nat → Option Nat} {fs : List Value} {i : Int32} (j : Nat) (hj : i.toNatClampNeg = j) (ha : w.1 a = some (cR z f)) (hv : w.1 v = some (cO 6 fs)) (hin : vp_in i z) (hdg : decode M.2.1 pc = .ok (.aastore, 1)) (kk : X G l M d mc ms k n (pc + 1) lv st (hset w a (cR z (va_up f j (some v)))) Q) : X G l M d mc ms k n pc lv (.ref v :: .int i :: .ref a :: st) w Q := by
  refine x_aast ha hv ⟨_, _, rfl⟩ hin hdg ?_
  rw [hj]
  exact kk
theorem x_astoreN_n {f : Fin 4} {i : Nat} {lv2 : List (Nat × Value)} (hdg : decode M.2.1 pc = .ok (.astore_n f, 1)) (hi : (f : Nat) = i) (hlt : i < M.2.2.1) (he : (i, Value.null) :: lv.filter (fun q => !(q.1 == i) && !(q.1 + 1 == i && q.2.category == 2)) = lv2) (kk : X G l M d mc ms k n (pc + 1) lv2 st w Q) : X G l M d mc ms k n pc lv (.null :: st) w Q := by
  intro p e R s m args below meth c Z H locs ls A E hR hL hl hk hn
  exact lv_astore_nN A.1 A.2.1 hdg hi hl hlt he (fun ls2 hl2 => kk p e R s m args below meth c Z H locs ls2 A E hR hL hl2 hk hn)
theorem x_aloadN_n {f : Fin 4} {i : Nat} (q : Nat) (hdg : decode M.2.1 pc = .ok (.aload_n f, 1)) (hi : (f : Nat) = i) (hq : lv[q]? = some (i, .null)) (kk : X G l M d mc ms k n (pc + 1) lv (.null :: st) w Q) : X G l M d mc ms k n pc lv st w Q := by
  intro p e R s m args below meth c Z H locs ls A E hR hL hl hk hn
  exact lv_aload_nN A.1 A.2.1 hdg hi (lv_at hl q hq) (kk p e R s m args below meth c Z H locs ls A E hR hL hl hk hn)
end
