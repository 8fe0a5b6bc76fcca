/-! the kept states -/
/-- what the class's record does -/
def RcX (G : GH) (cn : Nat) (kr : Nat → RT) (ct2 : Int32) (kp2 : Nat → Option Nat) (kr2 : Nat → RT) : Prop := (cn < 4 ∧ ct2 = nI (cn + 1) ∧ (∀ i, i < cn + 1 → ∃ b, kp2 i = some b) ∧ SxG G (kr2 cn) ∧ ∀ i, i < cn → kr2 i = kr i) ∨ (cn = 4 ∧ ct2 = nI 4 ∧ (∀ i, i < 4 → ∃ b, kp2 i = some b) ∧ SxG G (kr2 3) ∧ ∀ i, i < 3 → kr2 i = kr (i + 1))
/-- what the reference's does -/
def Same2P (m y : RT) : Prop := (∀ j, j ≠ 2 → y.1 j = m.1 j) ∧ y.2.1 = m.2.1 ∧ ∀ k, k ≠ 2 → y.2.2 k = m.2.2 k
theorem Same2P_t {a b c : RT} (h : Same2P a b) (k : Same2P b c) : Same2P a c := ⟨fun j hj => (k.1 j hj).trans (h.1 j hj), k.2.1.trans h.2.1, fun j hj => (k.2.2 j hj).trans (h.2.2 j hj)⟩
theorem Same2P_I (m : RT) (f : Nat → Int32) : Same2P m (rI m 2 f) := ⟨fun _ hj => if_neg hj, rfl, fun _ _ => rfl⟩
theorem Same2P_S (m : RT) (x : Int32) : Same2P m (rS m 2 x) := ⟨fun _ _ => rfl, rfl, fun _ hj => if_neg hj⟩
def RcM (cn : Nat) (m y : RT) : Prop := Same2P m y ∧ ((cn < 4 ∧ y.2.2 2 = nI (cn + 1) ∧ (∀ q, q < 812 → y.1 2 (812 * cn + q) = m.1 1 q) ∧ ∀ q, q < 812 * cn → y.1 2 q = m.1 2 q) ∨ (cn = 4 ∧ y.2.2 2 = nI 4 ∧ (∀ q, q < 812 → y.1 2 (2436 + q) = m.1 1 q) ∧ ∀ q, q < 2436 → y.1 2 q = m.1 2 (q + 812)))
