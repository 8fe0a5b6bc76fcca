theorem X.lv {G : GX} {l : Launch} {M : MD} {d mc ms k n pc : Nat} {lv lv2 : List (Nat × Value)} {st : List Value} {w : HW} {Q : Option Value → HW → Prop} (e : lv = lv2) (kk : X G l M d mc ms k n pc lv2 st w Q) : X G l M d mc ms k n pc lv st w Q := e ▸ kk
theorem retI {M : MD} {pc : Nat} {v : Int32} (h1 : decode M.2.1 pc = .ok (.ireturn, 1)) (h2 : M.2.2.2 = some .int) : RetAt M pc (some (.int v)) := And.intro h1 (Or.inl h2)
theorem retB {M : MD} {pc : Nat} {v : Int32} (h1 : decode M.2.1 pc = .ok (.ireturn, 1)) (h2 : M.2.2.2 = some .boolean) (h3 : narrow .boolean (.int v) = .int v) : RetAt M pc (some (.int v)) := And.intro h1 (Or.inr ⟨h2, h3⟩)
theorem retL {M : MD} {pc : Nat} {v : Int64} (h1 : decode M.2.1 pc = .ok (.lreturn, 1)) (h2 : M.2.2.2 = some .long) : RetAt M pc (some (.long v)) := And.intro h1 h2
theorem retV {M : MD} {pc : Nat} (h1 : decode M.2.1 pc = .ok (.return_, 1)) (h2 : M.2.2.2 = none) : RetAt M pc none := And.intro h1 h2
theorem hset_at {w : HW} {a : Nat} {c : Cel} : (hset w a c).1 a = some c := by simp [hset]
theorem hset_ne {w : HW} {a q : Nat} {c c2 : Cel} (h : q ≠ a) (hq : w.1 q = some c2) : (hset w a c).1 q = some c2 := by simp [hset, h, hq]
theorem hset_hset {w : HW} {a : Nat} {c c2 : Cel} : hset (hset w a c) a c2 = hset w a c2 := by
  refine Prod.ext (funext fun q => ?_) rfl
  by_cases h : q = a <;> simp [hset, h]
theorem hset_same {w : HW} {a : Nat} {c : Cel} (h : w.1 a = some c) : hset w a c = w := by
  refine Prod.ext (funext fun q => ?_) rfl
  by_cases e : q = a
  · subst e; simp [hset, h]
  · simp [hset, e]
theorem sw_out (lo hi : Int) (x : Int32) (h : ∀ v : Int, lo ≤ v → v ≤ hi → ¬ x.toInt = v) : x.toInt < lo ∨ hi < x.toInt := by
  rcases Int.lt_or_le x.toInt lo with h1 | h1
  · exact Or.inl h1
  · rcases Int.lt_or_le hi x.toInt with h2 | h2
    · exact Or.inr h2
    · exact absurd rfl (h _ h1 h2)
theorem sw_ne {x v : Int32} {z : Int} (h : ¬ x = v) (hv : v.toInt = z) : ¬ x.toInt = z := fun e => h (Int32.toInt_inj.mp (e.trans hv.symm))
/-- a call that writes one array, seen from any heap that holds it -/
theorem Sp.arr {G : GX} {l : Launch} {M : MD} {d : Nat} {av : List Value} {w : HW} {a z : Nat} {f : Nat → Int32} {P : Option Value → (Nat → Int32) → Prop} (ha : w.1 a = some (cI z f)) (h : Sp G l M d 0 0 av (hset w a (cI z f)) (fun r w2 => ∃ g : Nat → Int32, r = none ∧ w2 = hset w a (cI z g) ∧ P none g)) : Sp G l M d 0 0 av w (fun r w2 => ∃ g : Nat → Int32, r = none ∧ w2 = hset w a (cI z g) ∧ P none g) := by
  rw [hset_same ha] at h
  exact h
