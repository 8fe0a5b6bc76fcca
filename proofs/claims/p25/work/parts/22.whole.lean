/-! the whole of an object of the class: its fixed cells, and the states that come later -/
def Has (w : HW) (a n : Nat) (g : Nat → Cel) : Prop := ∀ k, k < n → w.1 (a + k) = some (g k)
theorem has_eq {w : HW} {a n : Nat} {g : Nat → Cel} (h : Has w a n g) : put w a n g = w := by
  refine Prod.ext (funext fun q => ?_) rfl
  by_cases e : a ≤ q ∧ q < a + n
  · have := h (q - a) (by omega)
    rw [show a + (q - a) = q by omega] at this
    simp [put, e, this]
  · simp [put, e]
theorem has_self {w : HW} {a n : Nat} {g : Nat → Cel} : Has (put w a n g) a n g := fun k hk => put_at k hk rfl
theorem has_out {w : HW} {a n b m : Nat} {g g' : Nat → Cel} (h : a + n ≤ b ∨ b + m ≤ a) (hb : Has w b m g) : Has (put w a n g') b m g := fun k hk => put_out (by omega) (hb k hk)
theorem has_hset {w : HW} {q b m : Nat} {c : Cel} {g : Nat → Cel} (h : q < b ∨ b + m ≤ q) (hb : Has w b m g) : Has (hset w q c) b m g := fun k hk => hset_ne (by omega) (hb k hk)
def lzS (w : HW) (x b : Nat) (s : RT) : Prop := x + 33 ≤ b ∧ b + 19 ≤ w.2 ∧ Has w b 19 (shS b s)
def apart (b c : Nat) : Prop := b + 19 ≤ c ∨ c + 19 ≤ b
def LZ (w : HW) (x : Nat) (kp : Nat → Option Nat) (kr : Nat → RT) (sl : Nat → Option Nat) (sr : Nat → RT) : Prop :=
  (∀ j b, j < 4 → kp j = some b → lzS w x b (kr j)) ∧ (∀ j b, j < 2 → sl j = some b → lzS w x b (sr j)) ∧
  (∀ i j b c, i < 4 → j < 4 → i ≠ j → kp i = some b → kp j = some c → apart b c) ∧ (∀ i j b c, i < 2 → j < 2 → i ≠ j → sl i = some b → sl j = some c → apart b c) ∧
  (∀ i j b c, i < 4 → j < 2 → kp i = some b → sl j = some c → apart b c)
theorem lzS.put {w : HW} {x b a n : Nat} {s : RT} {g : Nat → Cel} (h : lzS w x b s) (ha : a + n ≤ x + 33) : lzS (put w a n g) x b s := ⟨h.1, h.2.1, has_out (by have := h.1; omega) h.2.2⟩
theorem lzS.hset {w : HW} {x b q : Nat} {s : RT} {c : Cel} (h : lzS w x b s) (ha : q < x + 33) : lzS (hset w q c) x b s := ⟨h.1, h.2.1, has_hset (by have := h.1; omega) h.2.2⟩
theorem LZ.put {w : HW} {x a n : Nat} {kp sl : Nat → Option Nat} {kr sr : Nat → RT} {g : Nat → Cel} (h : LZ w x kp kr sl sr) (ha : a + n ≤ x + 33) : LZ (put w a n g) x kp kr sl sr :=
  ⟨fun j b hj hb => (h.1 j b hj hb).put ha, fun j b hj hb => (h.2.1 j b hj hb).put ha, h.2.2⟩
theorem LZ.hset {w : HW} {x q : Nat} {kp sl : Nat → Option Nat} {kr sr : Nat → RT} {c : Cel} (h : LZ w x kp kr sl sr) (ha : q < x + 33) : LZ (hset w q c) x kp kr sl sr :=
  ⟨fun j b hj hb => (h.1 j b hj hb).hset ha, fun j b hj hb => (h.2.1 j b hj hb).hset ha, h.2.2⟩
/-- the contents of a state that was just made -/
def s0S : RT := (fun j => if j = 12 then upd (upd (upd (fun _ => 0) (0 : Int32).toNatClampNeg 100) (1 : Int32).toNatClampNeg 1) (2 : Int32).toNatClampNeg 2 else fun _ => 0, fun _ _ => 0, fun j => if j = 0 then 1 else 0)
/-- the field of the trial state: null until the first call that needs it -/
def trv (w : HW) (x : Nat) : Value := match w.1 x with
  | some (.inr (.inr (_, fs))) => fs.getD 4 .null
  | _ => .null
theorem trv_eq {w w2 : HW} {x : Nat} (e : w2.1 x = w.1 x) : trv w2 x = trv w x := by unfold trv; rw [e]
theorem put_q {w : HW} {a n q : Nat} {g : Nat → Cel} (h : q < a ∨ a + n ≤ q) : (put w a n g).1 q = w.1 q := by
  have e : ¬ (a ≤ q ∧ q < a + n) := by omega
  show (if a ≤ q ∧ q < a + n then some (g (q - a)) else w.1 q) = w.1 q
  rw [if_neg e]
theorem hset_q {w : HW} {a q : Nat} {c : Cel} (h : q ≠ a) : (hset w a c).1 q = w.1 q := by
  show (if q = a then some c else w.1 q) = w.1 q
  rw [if_neg h]
def TZ (w : HW) (x : Nat) (r : RT) (kp sl : Nat → Option Nat) : Prop :=
  (trv w x = .null ∧ r = s0S) ∨ (∃ b, trv w x = .ref b ∧ lzS w x b r ∧ (∀ j c, j < 4 → kp j = some c → apart b c) ∧ (∀ j c, j < 2 → sl j = some c → apart b c))
theorem TZ.mv {w w2 : HW} {x : Nat} {r : RT} {kp sl : Nat → Option Nat} (h : TZ w x r kp sl) (e : w2.1 x = w.1 x) (m : ∀ b s, lzS w x b s → lzS w2 x b s) : TZ w2 x r kp sl := by
  rcases h with ⟨h1, h2⟩ | ⟨b, h1, h2, h3⟩
  · exact Or.inl ⟨(trv_eq e).trans h1, h2⟩
  · exact Or.inr ⟨b, (trv_eq e).trans h1, m b r h2, h3⟩
theorem TZ.put {w : HW} {x a n : Nat} {r : RT} {kp sl : Nat → Option Nat} {g : Nat → Cel} (h : TZ w x r kp sl) (h0 : x < a) (ha : a + n ≤ x + 33) : TZ (put w a n g) x r kp sl := h.mv (put_q (Or.inl h0)) (fun _ _ hz => hz.put ha)
theorem TZ.hset {w : HW} {x q : Nat} {r : RT} {kp sl : Nat → Option Nat} {c : Cel} (h : TZ w x r kp sl) (h0 : x < q) (ha : q < x + 33) : TZ (hset w q c) x r kp sl := h.mv (hset_q (Nat.ne_of_lt h0)) (fun _ _ hz => hz.hset ha)
def ob9 (x : Nat) (v : Value) : Cel := cO 9 [.ref (x + 1), .ref (x + 4), .ref (x + 23), .ref (x + 25), v, .ref (x + 26)]
def XW (w : HW) (x : Nat) (t c r p : RT) (ct : Int32) (kp : Nat → Option Nat) (kr : Nat → RT) (sl : Nat → Option Nat) (sr : Nat → RT) : Prop :=
  w.1 x = some (ob9 x (trv w x)) ∧ Has w (x + 1) 3 (shT (x + 1) t) ∧ Has w (x + 4) 19 (shS (x + 4) c) ∧ TZ w x r kp sl ∧ Has w (x + 26) 7 (shP (x + 26) p) ∧
  w.1 (x + 23) = some (cO 2 [.ref (x + 23 + 1), .int ct]) ∧ w.1 (x + 23 + 1) = some (cR 4 kp) ∧ w.1 (x + 25) = some (cR 2 sl) ∧ LZ w x kp kr sl sr ∧ x + 33 ≤ w.2
theorem ob_mv {w w2 : HW} {x : Nat} (h : w.1 x = some (ob9 x (trv w x))) (e : w2.1 x = w.1 x) : w2.1 x = some (ob9 x (trv w2 x)) := by rw [trv_eq e, e]; exact h
def Out (x : Nat) (w w2 : HW) : Prop := w.2 ≤ w2.2 ∧ ∀ q, (q < x ∨ (x + 33 ≤ q ∧ q < x + 33)) → w2.1 q = w.1 q
theorem Out.rf {x : Nat} {w : HW} : Out x w w := ⟨Nat.le_refl _, fun _ _ => rfl⟩
theorem Out.trans {x : Nat} {w w2 w3 : HW} (h : Out x w w2) (h2 : Out x w2 w3) : Out x w w3 := ⟨Nat.le_trans h.1 h2.1, fun q hq => (h2.2 q hq).trans (h.2 q hq)⟩
theorem Out.put {x a n : Nat} {w w2 : HW} {g : Nat → Cel} (h : Out x w w2) (h1 : x ≤ a) (h2 : a + n ≤ x + 33) : Out x w (put w2 a n g) := by
  refine ⟨h.1, fun q hq => ?_⟩
  have e : ¬ (a ≤ q ∧ q < a + n) := by omega
  rw [← h.2 q hq]
  show (if a ≤ q ∧ q < a + n then some (g (q - a)) else w2.1 q) = w2.1 q
  rw [if_neg e]
theorem Out.hset {x a : Nat} {w w2 : HW} {c : Cel} (h : Out x w w2) (h1 : x ≤ a) (h2 : a < x + 33) : Out x w (hset w2 a c) := by
  refine ⟨h.1, fun q hq => ?_⟩
  have e : ¬ q = a := by omega
  rw [← h.2 q hq]
  show (if q = a then some c else w2.1 q) = w2.1 q
  rw [if_neg e]
section
variable {w : HW} {x : Nat} {t c r p z : RT} {ct : Int32} {kp sl : Nat → Option Nat} {kr sr : Nat → RT}
theorem XW.hT (h : XW w x t c r p ct kp kr sl sr) : Has w (x + 1) 3 (shT (x + 1) t) := h.2.1
theorem XW.hC (h : XW w x t c r p ct kp kr sl sr) : Has w (x + 4) 19 (shS (x + 4) c) := h.2.2.1
theorem XW.hR (h : XW w x t c r p ct kp kr sl sr) : TZ w x r kp sl := h.2.2.2.1
theorem XW.hP (h : XW w x t c r p ct kp kr sl sr) : Has w (x + 26) 7 (shP (x + 26) p) := h.2.2.2.2.1
theorem XW.hK0 (h : XW w x t c r p ct kp kr sl sr) : w.1 (x + 23) = some (cO 2 [.ref (x + 23 + 1), .int ct]) := h.2.2.2.2.2.1
theorem XW.hK1 (h : XW w x t c r p ct kp kr sl sr) : w.1 (x + 23 + 1) = some (cR 4 kp) := h.2.2.2.2.2.2.1
theorem XW.hZ (h : XW w x t c r p ct kp kr sl sr) : w.1 (x + 25) = some (cR 2 sl) := h.2.2.2.2.2.2.2.1
theorem XW.hL (h : XW w x t c r p ct kp kr sl sr) : LZ w x kp kr sl sr := h.2.2.2.2.2.2.2.2.1
theorem XW.h2 (h : XW w x t c r p ct kp kr sl sr) : x + 33 ≤ w.2 := h.2.2.2.2.2.2.2.2.2
theorem XW.setT (h : XW w x t c r p ct kp kr sl sr) : XW (put w (x + 1) 3 (shT (x + 1) z)) x z c r p ct kp kr sl sr :=
  ⟨ob_mv h.1 (put_q (by omega)), has_self, has_out (by omega) h.hC, h.hR.put (by omega) (by omega), has_out (by omega) h.hP, put_out (by omega) h.hK0, put_out (by omega) h.hK1, put_out (by omega) h.hZ, h.hL.put (by omega), h.h2⟩
theorem XW.setC (h : XW w x t c r p ct kp kr sl sr) : XW (put w (x + 4) 19 (shS (x + 4) z)) x t z r p ct kp kr sl sr :=
  ⟨ob_mv h.1 (put_q (by omega)), has_out (by omega) h.hT, has_self, h.hR.put (by omega) (by omega), has_out (by omega) h.hP, put_out (by omega) h.hK0, put_out (by omega) h.hK1, put_out (by omega) h.hZ, h.hL.put (by omega), h.h2⟩
theorem XW.setP (h : XW w x t c r p ct kp kr sl sr) : XW (put w (x + 26) 7 (shP (x + 26) z)) x t c r z ct kp kr sl sr :=
  ⟨ob_mv h.1 (put_q (by omega)), has_out (by omega) h.hT, has_out (by omega) h.hC, h.hR.put (by omega) (by omega), has_self, put_out (by omega) h.hK0, put_out (by omega) h.hK1, put_out (by omega) h.hZ, h.hL.put (by omega), h.h2⟩
theorem XW.setK (h : XW w x t c r p ct kp kr sl sr) {v : Int32} : XW (hset w (x + 23) (cO 2 [.ref (x + 23 + 1), .int v])) x t c r p v kp kr sl sr :=
  ⟨ob_mv h.1 (hset_q (by omega)), has_hset (by omega) h.hT, has_hset (by omega) h.hC, h.hR.hset (by omega) (by omega), has_hset (by omega) h.hP, hset_at, hset_ne (by omega) h.hK1, hset_ne (by omega) h.hZ, h.hL.hset (by omega), h.h2⟩
theorem XW.setKp (h : XW w x t c r p ct kp kr sl sr) {kp2 : Nat → Option Nat} {kr2 : Nat → RT} (hl : LZ w x kp2 kr2 sl sr) (ht : TZ w x r kp2 sl) : XW (hset w (x + 23 + 1) (cR 4 kp2)) x t c r p ct kp2 kr2 sl sr :=
  ⟨ob_mv h.1 (hset_q (by omega)), has_hset (by omega) h.hT, has_hset (by omega) h.hC, ht.hset (by omega) (by omega), has_hset (by omega) h.hP, hset_ne (by omega) h.hK0, hset_at, hset_ne (by omega) h.hZ, hl.hset (by omega), h.h2⟩
theorem XW.setZ (h : XW w x t c r p ct kp kr sl sr) {sl2 : Nat → Option Nat} {sr2 : Nat → RT} (hl : LZ w x kp kr sl2 sr2) (ht : TZ w x r kp sl2) : XW (hset w (x + 25) (cR 2 sl2)) x t c r p ct kp kr sl2 sr2 :=
  ⟨ob_mv h.1 (hset_q (by omega)), has_hset (by omega) h.hT, has_hset (by omega) h.hC, ht.hset (by omega) (by omega), has_hset (by omega) h.hP, hset_ne (by omega) h.hK0, hset_ne (by omega) h.hK1, hset_at, hl.hset (by omega), h.h2⟩
end
def fLi : Nat → Int32 := fun j => if j = 0 then 20 else 0
def fMi : Nat → Int32 := fun j => if j = 0 then 500 else if j = 1 then 4 else 3
theorem roLeast {G : GX} : RoA G (gL G) 3 fLi := fun U h => by
  obtain ⟨cell, h1, h2, h3, h4, h5, h6, h7⟩ := h.2.2.2.2.1
  exact ⟨cell, h1, h2, h3, h4, h5, fun j hj => by rw [h6 j hj]; unfold fLeast fLi; by_cases e : j = 0 <;> simp [e]⟩
theorem roMost {G : GX} : RoA G (gM G) 3 fMi := fun U h => by
  obtain ⟨cell, h1, h2, h3, h4, h5, h6, h7⟩ := h.2.2.2.2.2.1
  exact ⟨cell, h1, h2, h3, h4, h5, fun j hj => by rw [h6 j hj]; unfold fMost fMi; by_cases e : j = 0 <;> by_cases e1 : j = 1 <;> simp [e, e1]⟩
