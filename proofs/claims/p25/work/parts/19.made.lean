/-! cells made one behind another -/
def ex (w : HW) (a : Nat) (cl : List Cel) : HW := (fun q => if a ≤ q ∧ q < a + cl.length then cl[q - a]? else w.1 q, a + cl.length)
theorem ex_at {w : HW} {a k : Nat} {cl : List Cel} {c : Cel} (h : cl[k]? = some c) : (ex w a cl).1 (a + k) = some c := by
  have hk := (List.getElem?_eq_some_iff.mp h).1
  have h2 : a ≤ a + k ∧ a + k < a + cl.length := by omega
  show (if a ≤ a + k ∧ a + k < a + cl.length then cl[a + k - a]? else w.1 (a + k)) = some c
  rw [if_pos h2, Nat.add_sub_cancel_left]
  exact h
theorem ex_at0 {w : HW} {a : Nat} {cl : List Cel} {c : Cel} (h : cl[0]? = some c) : (ex w a cl).1 a = some c := ex_at (k := 0) h
theorem ex_hset {w : HW} {a k : Nat} {cl cl2 : List Cel} {c : Cel} (hk : k < cl.length) (e : cl.set k c = cl2) : hset (ex w a cl) (a + k) c = ex w a cl2 := by
  subst e
  refine Prod.ext (funext fun q => ?_) (by simp [hset, ex])
  by_cases h : a ≤ q ∧ q < a + cl.length
  · by_cases hq : q = a + k
    · subst hq; simp [hset, ex, hk]
    · have : k ≠ q - a := by omega
      simp [hset, ex, h, hq, List.getElem?_set_ne this]
  · have hq : q ≠ a + k := by omega
    simp [hset, ex, h, hq]
theorem ex_hset0 {w : HW} {a : Nat} {cl cl2 : List Cel} {c : Cel} (hk : 0 < cl.length) (e : cl.set 0 c = cl2) : hset (ex w a cl) a c = ex w a cl2 := ex_hset (k := 0) hk e
theorem ex_app {w : HW} {a b : Nat} {c1 c2 c3 : List Cel} (h : a + c1.length = b) (e : c1 ++ c2 = c3) : ex (ex w a c1) b c2 = ex w a c3 := by
  subst h; subst e
  refine Prod.ext (funext fun q => ?_) (by simp [ex]; omega)
  by_cases h1 : a ≤ q ∧ q < a + c1.length
  · have h2 : ¬ (a + c1.length ≤ q ∧ q < a + c1.length + c2.length) := by omega
    have h3 : a ≤ q ∧ q < a + (c1 ++ c2).length := by simp; omega
    have h4 : q - a < c1.length := by omega
    simp only [ex, h1, h2, h3, if_true, if_false, and_self]
    rw [List.getElem?_append_left h4]
  · by_cases h2 : a + c1.length ≤ q ∧ q < a + c1.length + c2.length
    · have h3 : a ≤ q ∧ q < a + (c1 ++ c2).length := by simp; omega
      simp only [ex, h2, h3, if_true, and_self]
      rw [List.getElem?_append_right (by omega)]
      congr 1
      omega
    · have h3 : ¬ (a ≤ q ∧ q < a + (c1 ++ c2).length) := by simp; omega
      simp only [ex, h1, h2, h3, if_false]
theorem ex_new {w : HW} {a : Nat} {cl cl2 : List Cel} {c : Cel} (e : cl ++ [c] = cl2) : hnew (ex w a cl) c = ex w a cl2 := by
  rw [← ex_app (w := w) (a := a) (c1 := cl) (c2 := [c]) rfl e]
  refine Prod.ext (funext fun q => ?_) rfl
  by_cases h : q = a + cl.length
  · subst h; simp [hnew, ex]
  · have h2 : ¬ (a + cl.length ≤ q ∧ q < a + cl.length + 1) := by omega
    have h3 : ¬ q = (ex w a cl).2 := h
    simp only [hnew, h3, if_false]
    simp [ex]
    intro h4 h5
    exfalso
    omega
theorem ex_one {w : HW} {a : Nat} {c : Cel} (h : w.2 = a) : hnew w c = ex w a [c] := by
  subst h
  refine Prod.ext (funext fun q => ?_) rfl
  by_cases h : q = w.2
  · subst h; simp [hnew, ex]
  · have h2 : ¬ (w.2 ≤ q ∧ q < w.2 + 1) := by omega
    simp [hnew, ex, h]
    intro h4 h5
    exfalso
    omega
theorem ex_put {w : HW} {a n : Nat} {cl : List Cel} {g : Nat → Cel} (hn : cl.length = n) (hg : ∀ k, k < n → cl[k]? = some (g k)) : ex w a cl = put (w.1, a + n) a n g := by
  subst hn
  refine Prod.ext (funext fun q => ?_) rfl
  by_cases h : a ≤ q ∧ q < a + cl.length
  · simp only [ex, put, h, if_true, and_self]
    exact hg _ (by omega)
  · simp only [ex, put, h, if_false]
section
variable {G : GX} {l : Launch} {M : MD} {d mc ms k n pc : Nat} {lv : List (Nat × Value)} {st : List Value} {w : HW} {Q : Option Value → HW → Prop}
theorem x_newE {a idx ci N : Nat} {ty : Nat → FieldType} {cl cl2 : List Cel} (q : Nat) (fs : List Value) (hq : a + cl.length = q) (he : cl ++ [cO ci fs] = cl2) (F : NewOk M.1.cls idx ci N ty) (hfs : ∀ j, j < N → defaultValue (ty j) = vp_V fs j) (hkc : k + 1 ≤ mc) (hkn : n + N ≤ ms) (hdg : decode M.2.1 pc = .ok (.new idx, 3)) (kk : X G l M d mc ms (k + 1) (n + N) (pc + 3) lv (.ref q :: st) (ex w a cl2) Q) : X G l M d mc ms k n pc lv st (ex w a cl) Q := by
  refine x_new fs F hfs hkc hkn hdg ?_
  rw [ex_new he]
  subst hq
  exact kk
theorem x_newIE {a N : Nat} {z : Int32} {cl cl2 : List Cel} (q : Nat) (hq : a + cl.length = q) (he : cl ++ [cI N (fun _ => 0)] = cl2) (h0 : ¬ z < 0) (hN : z.toNatClampNeg = N) (hby : N * 4 ≤ 536870912) (hkc : k + 1 ≤ mc) (hkn : n + N ≤ ms) (hdg : decode M.2.1 pc = .ok (.newarray .int, 2)) (kk : X G l M d mc ms (k + 1) (n + N) (pc + 2) lv (.ref q :: st) (ex w a cl2) Q) : X G l M d mc ms k n pc lv (.int z :: st) (ex w a cl) Q := by
  refine x_newaI aw_I h0 hN hby hkc hkn hdg ?_
  rw [ex_new he]
  subst hq
  exact kk
theorem x_newRE {a N idx : Nat} {z : Int32} {cl cl2 : List Cel} (q : Nat) (hq : a + cl.length = q) (he : cl ++ [cR N (fun _ => none)] = cl2) (ht : Cond.classLink M.1.cls idx "LagSolver$State" ∈ tG) (h0 : ¬ z < 0) (hN : z.toNatClampNeg = N) (hby : N * 4 ≤ 536870912) (hkc : k + 1 ≤ mc) (hkn : n + N ≤ ms) (hdg : decode M.2.1 pc = .ok (.anewarray idx, 3)) (kk : X G l M d mc ms (k + 1) (n + N) (pc + 3) lv (.ref q :: st) (ex w a cl2) Q) : X G l M d mc ms k n pc lv (.int z :: st) (ex w a cl) Q := by
  refine x_newaR ht h0 hN hby hkc hkn hdg ?_
  rw [ex_new he]
  subst hq
  exact kk
end
theorem ex_split {w : HW} {a b : Nat} {c1 c2 c3 : List Cel} (h : a + c1.length = b) (e : c1 ++ c2 = c3) : ex w a c3 = ex (ex w a c1) b c2 := (ex_app h e).symm
