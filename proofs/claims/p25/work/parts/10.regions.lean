/-! regions: cells that lie together; their contents as a tuple of functions -/
abbrev RT : Type := (Nat → Nat → Int32) × (Nat → Nat → Int64) × (Nat → Int32)
def rI (s : RT) (k : Nat) (f : Nat → Int32) : RT := (fun j => if j = k then f else s.1 j, s.2.1, s.2.2)
def rL (s : RT) (k : Nat) (f : Nat → Int64) : RT := (s.1, fun j => if j = k then f else s.2.1 j, s.2.2)
def rS (s : RT) (k : Nat) (v : Int32) : RT := (s.1, s.2.1, fun j => if j = k then v else s.2.2 j)
def put (w : HW) (a n : Nat) (g : Nat → Cel) : HW := (fun q => if a ≤ q ∧ q < a + n then some (g (q - a)) else w.1 q, w.2)
theorem put_at {w : HW} {a n : Nat} {g : Nat → Cel} (k : Nat) {c : Cel} (hk : k < n) (hc : g k = c) : (put w a n g).1 (a + k) = some c := by
  have h : a ≤ a + k ∧ a + k < a + n := ⟨Nat.le_add_right _ _, by omega⟩
  simp [put, h, hc]
theorem put_at0 {w : HW} {a n : Nat} {g : Nat → Cel} {c : Cel} (hk : 0 < n) (hc : g 0 = c) : (put w a n g).1 a = some c := put_at 0 hk hc
theorem put_out {w : HW} {a n q : Nat} {g : Nat → Cel} {c : Cel} (h : q < a ∨ a + n ≤ q) (hq : w.1 q = some c) : (put w a n g).1 q = some c := by
  have h : ¬ (a ≤ q ∧ q < a + n) := by omega
  simp [put, h, hq]
theorem put_hset {w : HW} {a n : Nat} {g g' : Nat → Cel} (k : Nat) {c : Cel} (hk : k < n) (hc : g' k = c) (ho : ∀ j, j < n → j ≠ k → g' j = g j) : hset (put w a n g) (a + k) c = put w a n g' := by
  refine Prod.ext (funext fun q => ?_) rfl
  by_cases h : a ≤ q ∧ q < a + n
  · by_cases e : q = a + k
    · subst e
      simp [hset, put, h, hc]
    · have := ho (q - a) (by omega) (by omega)
      simp [hset, put, h, e, this]
  · have e : q ≠ a + k := by omega
    simp [hset, put, h, e]
theorem put_hset0 {w : HW} {a n : Nat} {g g' : Nat → Cel} {c : Cel} (hk : 0 < n) (hc : g' 0 = c) (ho : ∀ j, j < n → j ≠ 0 → g' j = g j) : hset (put w a n g) a c = put w a n g' := put_hset 0 hk hc ho
theorem hset_out {w w' : HW} {a n q : Nat} {g : Nat → Cel} {c : Cel} (h : q < a ∨ a + n ≤ q) (e : hset w q c = w') : hset (put w a n g) q c = put w' a n g := by
  subst e
  refine Prod.ext (funext fun r => ?_) rfl
  by_cases h1 : a ≤ r ∧ r < a + n
  · have e : r ≠ q := by omega
    simp [hset, put, h1, e]
  · simp [hset, put, h1]
theorem X.world {G : GX} {l : Launch} {M : MD} {d mc ms k n pc : Nat} {lv : List (Nat × Value)} {st : List Value} {w w2 : HW} {Q : Option Value → HW → Prop} (e : w = w2) (kk : X G l M d mc ms k n pc lv st w2 Q) : X G l M d mc ms k n pc lv st w Q := e ▸ kk
theorem put_put {w : HW} {a n : Nat} {g g' : Nat → Cel} : put (put w a n g) a n g' = put w a n g' := by
  refine Prod.ext (funext fun q => ?_) rfl
  by_cases h : a ≤ q ∧ q < a + n <;> simp [put, h]
theorem put_comm {w : HW} {a n b m : Nat} {g g' : Nat → Cel} (h : a + n ≤ b ∨ b + m ≤ a) : put (put w a n g) b m g' = put (put w b m g') a n g := by
  refine Prod.ext (funext fun q => ?_) rfl
  by_cases h1 : a ≤ q ∧ q < a + n
  · have h2 : ¬ (b ≤ q ∧ q < b + m) := by omega
    simp [put, h1, h2]
  · by_cases h2 : b ≤ q ∧ q < b + m <;> simp [put, h1, h2]
def shS (a : Nat) (s : RT) : Nat → Cel := fun j => match j with
  | 0 => cO 6 [.ref (a + 1), .ref (a + 5), .ref (a + 8), .ref (a + 12), .ref (a + 13), .ref (a + 17)]
  | 1 => cO 5 [.ref (a + 2), .ref (a + 3), .ref (a + 4)]
  | 2 => cI 240 (s.1 2)
  | 3 => cI 3 (s.1 3)
  | 4 => cI 3 (s.1 4)
  | 5 => cO 3 [.ref (a + 6), .ref (a + 7)]
  | 6 => cI 3 (s.1 6)
  | 7 => cI 3 (s.1 7)
  | 8 => cO 1 [.ref (a + 9), .ref (a + 10), .ref (a + 11)]
  | 9 => cI 3 (s.1 9)
  | 10 => cI 18 (s.1 10)
  | 11 => cI 18 (s.1 11)
  | 12 => cI 3 (s.1 12)
  | 13 => cO 0 [.ref (a + 14), .ref (a + 15), .ref (a + 16), .int (s.2.2 0)]
  | 14 => cI 40 (s.1 14)
  | 15 => cI 40 (s.1 15)
  | 16 => cI 40 (s.1 16)
  | 17 => cO 4 [.ref (a + 18), .int (s.2.2 1)]
  | _ => cI 7688 (s.1 18)
theorem gS_0 {w : HW} {a : Nat} {s : RT} : (put w a 19 (shS a s)).1 a = some (cO 6 [.ref (a + 1), .ref (a + 5), .ref (a + 8), .ref (a + 12), .ref (a + 13), .ref (a + 17)]) := put_at0 (by decide) rfl
theorem gS_1 {w : HW} {a : Nat} {s : RT} : (put w a 19 (shS a s)).1 (a + 1) = some (cO 5 [.ref (a + 2), .ref (a + 3), .ref (a + 4)]) := put_at 1 (by decide) rfl
theorem gS_2 {w : HW} {a : Nat} {s : RT} : (put w a 19 (shS a s)).1 (a + 2) = some (cI 240 (s.1 2)) := put_at 2 (by decide) rfl
theorem gS_3 {w : HW} {a : Nat} {s : RT} : (put w a 19 (shS a s)).1 (a + 3) = some (cI 3 (s.1 3)) := put_at 3 (by decide) rfl
theorem gS_4 {w : HW} {a : Nat} {s : RT} : (put w a 19 (shS a s)).1 (a + 4) = some (cI 3 (s.1 4)) := put_at 4 (by decide) rfl
theorem gS_5 {w : HW} {a : Nat} {s : RT} : (put w a 19 (shS a s)).1 (a + 5) = some (cO 3 [.ref (a + 6), .ref (a + 7)]) := put_at 5 (by decide) rfl
theorem gS_6 {w : HW} {a : Nat} {s : RT} : (put w a 19 (shS a s)).1 (a + 6) = some (cI 3 (s.1 6)) := put_at 6 (by decide) rfl
theorem gS_7 {w : HW} {a : Nat} {s : RT} : (put w a 19 (shS a s)).1 (a + 7) = some (cI 3 (s.1 7)) := put_at 7 (by decide) rfl
theorem gS_8 {w : HW} {a : Nat} {s : RT} : (put w a 19 (shS a s)).1 (a + 8) = some (cO 1 [.ref (a + 9), .ref (a + 10), .ref (a + 11)]) := put_at 8 (by decide) rfl
theorem gS_9 {w : HW} {a : Nat} {s : RT} : (put w a 19 (shS a s)).1 (a + 9) = some (cI 3 (s.1 9)) := put_at 9 (by decide) rfl
theorem gS_10 {w : HW} {a : Nat} {s : RT} : (put w a 19 (shS a s)).1 (a + 10) = some (cI 18 (s.1 10)) := put_at 10 (by decide) rfl
theorem gS_11 {w : HW} {a : Nat} {s : RT} : (put w a 19 (shS a s)).1 (a + 11) = some (cI 18 (s.1 11)) := put_at 11 (by decide) rfl
theorem gS_12 {w : HW} {a : Nat} {s : RT} : (put w a 19 (shS a s)).1 (a + 12) = some (cI 3 (s.1 12)) := put_at 12 (by decide) rfl
theorem gS_13 {w : HW} {a : Nat} {s : RT} : (put w a 19 (shS a s)).1 (a + 13) = some (cO 0 [.ref (a + 14), .ref (a + 15), .ref (a + 16), .int (s.2.2 0)]) := put_at 13 (by decide) rfl
theorem gS_14 {w : HW} {a : Nat} {s : RT} : (put w a 19 (shS a s)).1 (a + 14) = some (cI 40 (s.1 14)) := put_at 14 (by decide) rfl
theorem gS_15 {w : HW} {a : Nat} {s : RT} : (put w a 19 (shS a s)).1 (a + 15) = some (cI 40 (s.1 15)) := put_at 15 (by decide) rfl
theorem gS_16 {w : HW} {a : Nat} {s : RT} : (put w a 19 (shS a s)).1 (a + 16) = some (cI 40 (s.1 16)) := put_at 16 (by decide) rfl
theorem gS_17 {w : HW} {a : Nat} {s : RT} : (put w a 19 (shS a s)).1 (a + 17) = some (cO 4 [.ref (a + 18), .int (s.2.2 1)]) := put_at 17 (by decide) rfl
theorem gS_18 {w : HW} {a : Nat} {s : RT} : (put w a 19 (shS a s)).1 (a + 18) = some (cI 7688 (s.1 18)) := put_at 18 (by decide) rfl
theorem sS_2 {w : HW} {a : Nat} {s : RT} {f : Nat → Int32} : hset (put w a 19 (shS a s)) (a + 2) (cI 240 f) = put w a 19 (shS a (rI s 2 f)) := put_hset 2 (by decide) rfl (lt_s (lt_s (lt_s (lt_s (lt_s (lt_s (lt_s (lt_s (lt_s (lt_s (lt_s (lt_s (lt_s (lt_s (lt_s (lt_s (lt_s (lt_s (lt_s lt_0 (fun _ => rfl)) (fun _ => rfl)) (fun h => absurd rfl h)) (fun _ => rfl)) (fun _ => rfl)) (fun _ => rfl)) (fun _ => rfl)) (fun _ => rfl)) (fun _ => rfl)) (fun _ => rfl)) (fun _ => rfl)) (fun _ => rfl)) (fun _ => rfl)) (fun _ => rfl)) (fun _ => rfl)) (fun _ => rfl)) (fun _ => rfl)) (fun _ => rfl)) (fun _ => rfl))
theorem sS_3 {w : HW} {a : Nat} {s : RT} {f : Nat → Int32} : hset (put w a 19 (shS a s)) (a + 3) (cI 3 f) = put w a 19 (shS a (rI s 3 f)) := put_hset 3 (by decide) rfl (lt_s (lt_s (lt_s (lt_s (lt_s (lt_s (lt_s (lt_s (lt_s (lt_s (lt_s (lt_s (lt_s (lt_s (lt_s (lt_s (lt_s (lt_s (lt_s lt_0 (fun _ => rfl)) (fun _ => rfl)) (fun _ => rfl)) (fun h => absurd rfl h)) (fun _ => rfl)) (fun _ => rfl)) (fun _ => rfl)) (fun _ => rfl)) (fun _ => rfl)) (fun _ => rfl)) (fun _ => rfl)) (fun _ => rfl)) (fun _ => rfl)) (fun _ => rfl)) (fun _ => rfl)) (fun _ => rfl)) (fun _ => rfl)) (fun _ => rfl)) (fun _ => rfl))
theorem sS_4 {w : HW} {a : Nat} {s : RT} {f : Nat → Int32} : hset (put w a 19 (shS a s)) (a + 4) (cI 3 f) = put w a 19 (shS a (rI s 4 f)) := put_hset 4 (by decide) rfl (lt_s (lt_s (lt_s (lt_s (lt_s (lt_s (lt_s (lt_s (lt_s (lt_s (lt_s (lt_s (lt_s (lt_s (lt_s (lt_s (lt_s (lt_s (lt_s lt_0 (fun _ => rfl)) (fun _ => rfl)) (fun _ => rfl)) (fun _ => rfl)) (fun h => absurd rfl h)) (fun _ => rfl)) (fun _ => rfl)) (fun _ => rfl)) (fun _ => rfl)) (fun _ => rfl)) (fun _ => rfl)) (fun _ => rfl)) (fun _ => rfl)) (fun _ => rfl)) (fun _ => rfl)) (fun _ => rfl)) (fun _ => rfl)) (fun _ => rfl)) (fun _ => rfl))
theorem sS_6 {w : HW} {a : Nat} {s : RT} {f : Nat → Int32} : hset (put w a 19 (shS a s)) (a + 6) (cI 3 f) = put w a 19 (shS a (rI s 6 f)) := put_hset 6 (by decide) rfl (lt_s (lt_s (lt_s (lt_s (lt_s (lt_s (lt_s (lt_s (lt_s (lt_s (lt_s (lt_s (lt_s (lt_s (lt_s (lt_s (lt_s (lt_s (lt_s lt_0 (fun _ => rfl)) (fun _ => rfl)) (fun _ => rfl)) (fun _ => rfl)) (fun _ => rfl)) (fun _ => rfl)) (fun h => absurd rfl h)) (fun _ => rfl)) (fun _ => rfl)) (fun _ => rfl)) (fun _ => rfl)) (fun _ => rfl)) (fun _ => rfl)) (fun _ => rfl)) (fun _ => rfl)) (fun _ => rfl)) (fun _ => rfl)) (fun _ => rfl)) (fun _ => rfl))
theorem sS_7 {w : HW} {a : Nat} {s : RT} {f : Nat → Int32} : hset (put w a 19 (shS a s)) (a + 7) (cI 3 f) = put w a 19 (shS a (rI s 7 f)) := put_hset 7 (by decide) rfl (lt_s (lt_s (lt_s (lt_s (lt_s (lt_s (lt_s (lt_s (lt_s (lt_s (lt_s (lt_s (lt_s (lt_s (lt_s (lt_s (lt_s (lt_s (lt_s lt_0 (fun _ => rfl)) (fun _ => rfl)) (fun _ => rfl)) (fun _ => rfl)) (fun _ => rfl)) (fun _ => rfl)) (fun _ => rfl)) (fun h => absurd rfl h)) (fun _ => rfl)) (fun _ => rfl)) (fun _ => rfl)) (fun _ => rfl)) (fun _ => rfl)) (fun _ => rfl)) (fun _ => rfl)) (fun _ => rfl)) (fun _ => rfl)) (fun _ => rfl)) (fun _ => rfl))
theorem sS_9 {w : HW} {a : Nat} {s : RT} {f : Nat → Int32} : hset (put w a 19 (shS a s)) (a + 9) (cI 3 f) = put w a 19 (shS a (rI s 9 f)) := put_hset 9 (by decide) rfl (lt_s (lt_s (lt_s (lt_s (lt_s (lt_s (lt_s (lt_s (lt_s (lt_s (lt_s (lt_s (lt_s (lt_s (lt_s (lt_s (lt_s (lt_s (lt_s lt_0 (fun _ => rfl)) (fun _ => rfl)) (fun _ => rfl)) (fun _ => rfl)) (fun _ => rfl)) (fun _ => rfl)) (fun _ => rfl)) (fun _ => rfl)) (fun _ => rfl)) (fun h => absurd rfl h)) (fun _ => rfl)) (fun _ => rfl)) (fun _ => rfl)) (fun _ => rfl)) (fun _ => rfl)) (fun _ => rfl)) (fun _ => rfl)) (fun _ => rfl)) (fun _ => rfl))
theorem sS_10 {w : HW} {a : Nat} {s : RT} {f : Nat → Int32} : hset (put w a 19 (shS a s)) (a + 10) (cI 18 f) = put w a 19 (shS a (rI s 10 f)) := put_hset 10 (by decide) rfl (lt_s (lt_s (lt_s (lt_s (lt_s (lt_s (lt_s (lt_s (lt_s (lt_s (lt_s (lt_s (lt_s (lt_s (lt_s (lt_s (lt_s (lt_s (lt_s lt_0 (fun _ => rfl)) (fun _ => rfl)) (fun _ => rfl)) (fun _ => rfl)) (fun _ => rfl)) (fun _ => rfl)) (fun _ => rfl)) (fun _ => rfl)) (fun _ => rfl)) (fun _ => rfl)) (fun h => absurd rfl h)) (fun _ => rfl)) (fun _ => rfl)) (fun _ => rfl)) (fun _ => rfl)) (fun _ => rfl)) (fun _ => rfl)) (fun _ => rfl)) (fun _ => rfl))
theorem sS_11 {w : HW} {a : Nat} {s : RT} {f : Nat → Int32} : hset (put w a 19 (shS a s)) (a + 11) (cI 18 f) = put w a 19 (shS a (rI s 11 f)) := put_hset 11 (by decide) rfl (lt_s (lt_s (lt_s (lt_s (lt_s (lt_s (lt_s (lt_s (lt_s (lt_s (lt_s (lt_s (lt_s (lt_s (lt_s (lt_s (lt_s (lt_s (lt_s lt_0 (fun _ => rfl)) (fun _ => rfl)) (fun _ => rfl)) (fun _ => rfl)) (fun _ => rfl)) (fun _ => rfl)) (fun _ => rfl)) (fun _ => rfl)) (fun _ => rfl)) (fun _ => rfl)) (fun _ => rfl)) (fun h => absurd rfl h)) (fun _ => rfl)) (fun _ => rfl)) (fun _ => rfl)) (fun _ => rfl)) (fun _ => rfl)) (fun _ => rfl)) (fun _ => rfl))
theorem sS_12 {w : HW} {a : Nat} {s : RT} {f : Nat → Int32} : hset (put w a 19 (shS a s)) (a + 12) (cI 3 f) = put w a 19 (shS a (rI s 12 f)) := put_hset 12 (by decide) rfl (lt_s (lt_s (lt_s (lt_s (lt_s (lt_s (lt_s (lt_s (lt_s (lt_s (lt_s (lt_s (lt_s (lt_s (lt_s (lt_s (lt_s (lt_s (lt_s lt_0 (fun _ => rfl)) (fun _ => rfl)) (fun _ => rfl)) (fun _ => rfl)) (fun _ => rfl)) (fun _ => rfl)) (fun _ => rfl)) (fun _ => rfl)) (fun _ => rfl)) (fun _ => rfl)) (fun _ => rfl)) (fun _ => rfl)) (fun h => absurd rfl h)) (fun _ => rfl)) (fun _ => rfl)) (fun _ => rfl)) (fun _ => rfl)) (fun _ => rfl)) (fun _ => rfl))
theorem sS_13_0 {w : HW} {a : Nat} {s : RT} {v : Int32} : hset (put w a 19 (shS a s)) (a + 13) (cO 0 [.ref (a + 14), .ref (a + 15), .ref (a + 16), .int v]) = put w a 19 (shS a (rS s 0 v)) := put_hset 13 (by decide) rfl (lt_s (lt_s (lt_s (lt_s (lt_s (lt_s (lt_s (lt_s (lt_s (lt_s (lt_s (lt_s (lt_s (lt_s (lt_s (lt_s (lt_s (lt_s (lt_s lt_0 (fun _ => rfl)) (fun _ => rfl)) (fun _ => rfl)) (fun _ => rfl)) (fun _ => rfl)) (fun _ => rfl)) (fun _ => rfl)) (fun _ => rfl)) (fun _ => rfl)) (fun _ => rfl)) (fun _ => rfl)) (fun _ => rfl)) (fun _ => rfl)) (fun h => absurd rfl h)) (fun _ => rfl)) (fun _ => rfl)) (fun _ => rfl)) (fun _ => rfl)) (fun _ => rfl))
theorem sS_14 {w : HW} {a : Nat} {s : RT} {f : Nat → Int32} : hset (put w a 19 (shS a s)) (a + 14) (cI 40 f) = put w a 19 (shS a (rI s 14 f)) := put_hset 14 (by decide) rfl (lt_s (lt_s (lt_s (lt_s (lt_s (lt_s (lt_s (lt_s (lt_s (lt_s (lt_s (lt_s (lt_s (lt_s (lt_s (lt_s (lt_s (lt_s (lt_s lt_0 (fun _ => rfl)) (fun _ => rfl)) (fun _ => rfl)) (fun _ => rfl)) (fun _ => rfl)) (fun _ => rfl)) (fun _ => rfl)) (fun _ => rfl)) (fun _ => rfl)) (fun _ => rfl)) (fun _ => rfl)) (fun _ => rfl)) (fun _ => rfl)) (fun _ => rfl)) (fun h => absurd rfl h)) (fun _ => rfl)) (fun _ => rfl)) (fun _ => rfl)) (fun _ => rfl))
theorem sS_15 {w : HW} {a : Nat} {s : RT} {f : Nat → Int32} : hset (put w a 19 (shS a s)) (a + 15) (cI 40 f) = put w a 19 (shS a (rI s 15 f)) := put_hset 15 (by decide) rfl (lt_s (lt_s (lt_s (lt_s (lt_s (lt_s (lt_s (lt_s (lt_s (lt_s (lt_s (lt_s (lt_s (lt_s (lt_s (lt_s (lt_s (lt_s (lt_s lt_0 (fun _ => rfl)) (fun _ => rfl)) (fun _ => rfl)) (fun _ => rfl)) (fun _ => rfl)) (fun _ => rfl)) (fun _ => rfl)) (fun _ => rfl)) (fun _ => rfl)) (fun _ => rfl)) (fun _ => rfl)) (fun _ => rfl)) (fun _ => rfl)) (fun _ => rfl)) (fun _ => rfl)) (fun h => absurd rfl h)) (fun _ => rfl)) (fun _ => rfl)) (fun _ => rfl))
theorem sS_16 {w : HW} {a : Nat} {s : RT} {f : Nat → Int32} : hset (put w a 19 (shS a s)) (a + 16) (cI 40 f) = put w a 19 (shS a (rI s 16 f)) := put_hset 16 (by decide) rfl (lt_s (lt_s (lt_s (lt_s (lt_s (lt_s (lt_s (lt_s (lt_s (lt_s (lt_s (lt_s (lt_s (lt_s (lt_s (lt_s (lt_s (lt_s (lt_s lt_0 (fun _ => rfl)) (fun _ => rfl)) (fun _ => rfl)) (fun _ => rfl)) (fun _ => rfl)) (fun _ => rfl)) (fun _ => rfl)) (fun _ => rfl)) (fun _ => rfl)) (fun _ => rfl)) (fun _ => rfl)) (fun _ => rfl)) (fun _ => rfl)) (fun _ => rfl)) (fun _ => rfl)) (fun _ => rfl)) (fun h => absurd rfl h)) (fun _ => rfl)) (fun _ => rfl))
theorem sS_17_1 {w : HW} {a : Nat} {s : RT} {v : Int32} : hset (put w a 19 (shS a s)) (a + 17) (cO 4 [.ref (a + 18), .int v]) = put w a 19 (shS a (rS s 1 v)) := put_hset 17 (by decide) rfl (lt_s (lt_s (lt_s (lt_s (lt_s (lt_s (lt_s (lt_s (lt_s (lt_s (lt_s (lt_s (lt_s (lt_s (lt_s (lt_s (lt_s (lt_s (lt_s lt_0 (fun _ => rfl)) (fun _ => rfl)) (fun _ => rfl)) (fun _ => rfl)) (fun _ => rfl)) (fun _ => rfl)) (fun _ => rfl)) (fun _ => rfl)) (fun _ => rfl)) (fun _ => rfl)) (fun _ => rfl)) (fun _ => rfl)) (fun _ => rfl)) (fun _ => rfl)) (fun _ => rfl)) (fun _ => rfl)) (fun _ => rfl)) (fun h => absurd rfl h)) (fun _ => rfl))
theorem sS_18 {w : HW} {a : Nat} {s : RT} {f : Nat → Int32} : hset (put w a 19 (shS a s)) (a + 18) (cI 7688 f) = put w a 19 (shS a (rI s 18 f)) := put_hset 18 (by decide) rfl (lt_s (lt_s (lt_s (lt_s (lt_s (lt_s (lt_s (lt_s (lt_s (lt_s (lt_s (lt_s (lt_s (lt_s (lt_s (lt_s (lt_s (lt_s (lt_s lt_0 (fun _ => rfl)) (fun _ => rfl)) (fun _ => rfl)) (fun _ => rfl)) (fun _ => rfl)) (fun _ => rfl)) (fun _ => rfl)) (fun _ => rfl)) (fun _ => rfl)) (fun _ => rfl)) (fun _ => rfl)) (fun _ => rfl)) (fun _ => rfl)) (fun _ => rfl)) (fun _ => rfl)) (fun _ => rfl)) (fun _ => rfl)) (fun _ => rfl)) (fun h => absurd rfl h))
def shT (a : Nat) (s : RT) : Nat → Cel := fun j => match j with
  | 0 => cO 8 [.ref (a + 1), .int (s.2.2 1), .int (s.2.2 2), .ref (a + 2), .int (s.2.2 4), .int (s.2.2 5)]
  | 1 => cI 80 (s.1 1)
  | _ => cI 80 (s.1 2)
theorem gT_0 {w : HW} {a : Nat} {s : RT} : (put w a 3 (shT a s)).1 a = some (cO 8 [.ref (a + 1), .int (s.2.2 1), .int (s.2.2 2), .ref (a + 2), .int (s.2.2 4), .int (s.2.2 5)]) := put_at0 (by decide) rfl
theorem gT_1 {w : HW} {a : Nat} {s : RT} : (put w a 3 (shT a s)).1 (a + 1) = some (cI 80 (s.1 1)) := put_at 1 (by decide) rfl
theorem gT_2 {w : HW} {a : Nat} {s : RT} : (put w a 3 (shT a s)).1 (a + 2) = some (cI 80 (s.1 2)) := put_at 2 (by decide) rfl
theorem sT_0_1 {w : HW} {a : Nat} {s : RT} {v : Int32} : hset (put w a 3 (shT a s)) a (cO 8 [.ref (a + 1), .int v, .int (s.2.2 2), .ref (a + 2), .int (s.2.2 4), .int (s.2.2 5)]) = put w a 3 (shT a (rS s 1 v)) := put_hset0 (by decide) rfl (lt_s (lt_s (lt_s lt_0 (fun h => absurd rfl h)) (fun _ => rfl)) (fun _ => rfl))
theorem sT_0_2 {w : HW} {a : Nat} {s : RT} {v : Int32} : hset (put w a 3 (shT a s)) a (cO 8 [.ref (a + 1), .int (s.2.2 1), .int v, .ref (a + 2), .int (s.2.2 4), .int (s.2.2 5)]) = put w a 3 (shT a (rS s 2 v)) := put_hset0 (by decide) rfl (lt_s (lt_s (lt_s lt_0 (fun h => absurd rfl h)) (fun _ => rfl)) (fun _ => rfl))
theorem sT_0_4 {w : HW} {a : Nat} {s : RT} {v : Int32} : hset (put w a 3 (shT a s)) a (cO 8 [.ref (a + 1), .int (s.2.2 1), .int (s.2.2 2), .ref (a + 2), .int v, .int (s.2.2 5)]) = put w a 3 (shT a (rS s 4 v)) := put_hset0 (by decide) rfl (lt_s (lt_s (lt_s lt_0 (fun h => absurd rfl h)) (fun _ => rfl)) (fun _ => rfl))
theorem sT_0_5 {w : HW} {a : Nat} {s : RT} {v : Int32} : hset (put w a 3 (shT a s)) a (cO 8 [.ref (a + 1), .int (s.2.2 1), .int (s.2.2 2), .ref (a + 2), .int (s.2.2 4), .int v]) = put w a 3 (shT a (rS s 5 v)) := put_hset0 (by decide) rfl (lt_s (lt_s (lt_s lt_0 (fun h => absurd rfl h)) (fun _ => rfl)) (fun _ => rfl))
theorem sT_1 {w : HW} {a : Nat} {s : RT} {f : Nat → Int32} : hset (put w a 3 (shT a s)) (a + 1) (cI 80 f) = put w a 3 (shT a (rI s 1 f)) := put_hset 1 (by decide) rfl (lt_s (lt_s (lt_s lt_0 (fun _ => rfl)) (fun h => absurd rfl h)) (fun _ => rfl))
theorem sT_2 {w : HW} {a : Nat} {s : RT} {f : Nat → Int32} : hset (put w a 3 (shT a s)) (a + 2) (cI 80 f) = put w a 3 (shT a (rI s 2 f)) := put_hset 2 (by decide) rfl (lt_s (lt_s (lt_s lt_0 (fun _ => rfl)) (fun _ => rfl)) (fun h => absurd rfl h))
def shP (a : Nat) (s : RT) : Nat → Cel := fun j => match j with
  | 0 => cO 7 [.ref (a + 1), .ref (a + 2), .ref (a + 3), .ref (a + 4), .ref (a + 5), .ref (a + 6)]
  | 1 => cI 22 (s.1 1)
  | 2 => cI 80 (s.1 2)
  | 3 => cI 3 (s.1 3)
  | 4 => cI 3 (s.1 4)
  | 5 => cI 3 (s.1 5)
  | _ => cI 3 (s.1 6)
theorem gP_0 {w : HW} {a : Nat} {s : RT} : (put w a 7 (shP a s)).1 a = some (cO 7 [.ref (a + 1), .ref (a + 2), .ref (a + 3), .ref (a + 4), .ref (a + 5), .ref (a + 6)]) := put_at0 (by decide) rfl
theorem gP_1 {w : HW} {a : Nat} {s : RT} : (put w a 7 (shP a s)).1 (a + 1) = some (cI 22 (s.1 1)) := put_at 1 (by decide) rfl
theorem gP_2 {w : HW} {a : Nat} {s : RT} : (put w a 7 (shP a s)).1 (a + 2) = some (cI 80 (s.1 2)) := put_at 2 (by decide) rfl
theorem gP_3 {w : HW} {a : Nat} {s : RT} : (put w a 7 (shP a s)).1 (a + 3) = some (cI 3 (s.1 3)) := put_at 3 (by decide) rfl
theorem gP_4 {w : HW} {a : Nat} {s : RT} : (put w a 7 (shP a s)).1 (a + 4) = some (cI 3 (s.1 4)) := put_at 4 (by decide) rfl
theorem gP_5 {w : HW} {a : Nat} {s : RT} : (put w a 7 (shP a s)).1 (a + 5) = some (cI 3 (s.1 5)) := put_at 5 (by decide) rfl
theorem gP_6 {w : HW} {a : Nat} {s : RT} : (put w a 7 (shP a s)).1 (a + 6) = some (cI 3 (s.1 6)) := put_at 6 (by decide) rfl
theorem sP_1 {w : HW} {a : Nat} {s : RT} {f : Nat → Int32} : hset (put w a 7 (shP a s)) (a + 1) (cI 22 f) = put w a 7 (shP a (rI s 1 f)) := put_hset 1 (by decide) rfl (lt_s (lt_s (lt_s (lt_s (lt_s (lt_s (lt_s lt_0 (fun _ => rfl)) (fun h => absurd rfl h)) (fun _ => rfl)) (fun _ => rfl)) (fun _ => rfl)) (fun _ => rfl)) (fun _ => rfl))
theorem sP_2 {w : HW} {a : Nat} {s : RT} {f : Nat → Int32} : hset (put w a 7 (shP a s)) (a + 2) (cI 80 f) = put w a 7 (shP a (rI s 2 f)) := put_hset 2 (by decide) rfl (lt_s (lt_s (lt_s (lt_s (lt_s (lt_s (lt_s lt_0 (fun _ => rfl)) (fun _ => rfl)) (fun h => absurd rfl h)) (fun _ => rfl)) (fun _ => rfl)) (fun _ => rfl)) (fun _ => rfl))
theorem sP_3 {w : HW} {a : Nat} {s : RT} {f : Nat → Int32} : hset (put w a 7 (shP a s)) (a + 3) (cI 3 f) = put w a 7 (shP a (rI s 3 f)) := put_hset 3 (by decide) rfl (lt_s (lt_s (lt_s (lt_s (lt_s (lt_s (lt_s lt_0 (fun _ => rfl)) (fun _ => rfl)) (fun _ => rfl)) (fun h => absurd rfl h)) (fun _ => rfl)) (fun _ => rfl)) (fun _ => rfl))
theorem sP_4 {w : HW} {a : Nat} {s : RT} {f : Nat → Int32} : hset (put w a 7 (shP a s)) (a + 4) (cI 3 f) = put w a 7 (shP a (rI s 4 f)) := put_hset 4 (by decide) rfl (lt_s (lt_s (lt_s (lt_s (lt_s (lt_s (lt_s lt_0 (fun _ => rfl)) (fun _ => rfl)) (fun _ => rfl)) (fun _ => rfl)) (fun h => absurd rfl h)) (fun _ => rfl)) (fun _ => rfl))
theorem sP_5 {w : HW} {a : Nat} {s : RT} {f : Nat → Int32} : hset (put w a 7 (shP a s)) (a + 5) (cI 3 f) = put w a 7 (shP a (rI s 5 f)) := put_hset 5 (by decide) rfl (lt_s (lt_s (lt_s (lt_s (lt_s (lt_s (lt_s lt_0 (fun _ => rfl)) (fun _ => rfl)) (fun _ => rfl)) (fun _ => rfl)) (fun _ => rfl)) (fun h => absurd rfl h)) (fun _ => rfl))
theorem sP_6 {w : HW} {a : Nat} {s : RT} {f : Nat → Int32} : hset (put w a 7 (shP a s)) (a + 6) (cI 3 f) = put w a 7 (shP a (rI s 6 f)) := put_hset 6 (by decide) rfl (lt_s (lt_s (lt_s (lt_s (lt_s (lt_s (lt_s lt_0 (fun _ => rfl)) (fun _ => rfl)) (fun _ => rfl)) (fun _ => rfl)) (fun _ => rfl)) (fun _ => rfl)) (fun h => absurd rfl h))
