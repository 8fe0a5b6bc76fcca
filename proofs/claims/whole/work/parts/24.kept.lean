/-! the kept and the saved states -/
section
variable {w : HW} {x : Nat} {t c r p : RT} {ct : Int32} {kp sl : Nat → Option Nat} {kr sr : Nat → RT}
theorem out_putL {x b n : Nat} {wa w : HW} {g : Nat → Cel} (h : Out x wa w) (hb : x + 74 ≤ b) : Out x wa (put w b n g) := by
  refine ⟨h.1, fun q hq => ?_⟩
  have e : ¬ (b ≤ q ∧ q < b + n) := by omega
  rw [← h.2 q hq]
  show (if b ≤ q ∧ q < b + n then some (g (q - b)) else w.1 q) = w.1 q
  rw [if_neg e]
theorem out_grow {x : Nat} {wa w : HW} {g : Nat → Cel} (h : Out x wa w) (hb : x + 74 ≤ w.2) : Out x wa (put (w.1, w.2 + 19) w.2 19 g) := by
  refine ⟨Nat.le_trans h.1 (Nat.le_add_right _ _), fun q hq => ?_⟩
  have e : ¬ (w.2 ≤ q ∧ q < w.2 + 19) := by omega
  rw [← h.2 q hq]
  show (if w.2 ≤ q ∧ q < w.2 + 19 then some (g (q - w.2)) else w.1 q) = w.1 q
  rw [if_neg e]
theorem lz_putL {b a : Nat} {s s2 : RT} (h : lzS w x b s) (ha : apart a b) : lzS (put w a 19 (shS a s2)) x b s := ⟨h.1, h.2.1, has_out ha h.2.2⟩
theorem lz_self {b : Nat} {s s2 : RT} (h : lzS w x b s) : lzS (put w b 19 (shS b s2)) x b s2 := ⟨h.1, h.2.1, has_self⟩
theorem apart_symm {a b : Nat} (h : apart a b) : apart b a := h.elim Or.inr Or.inl
theorem XW.low (h : XW w x t c r p ct kp kr sl sr) {b : Nat} {s : RT} (hb : x + 74 ≤ b) (hl : LZ (put w b 19 (shS b s)) x kp kr sl sr → LZ (put w b 19 (shS b s)) x kp kr sl sr) {kr2 sr2 : Nat → RT} (hz : LZ (put w b 19 (shS b s)) x kp kr2 sl sr2) : XW (put w b 19 (shS b s)) x t c r p ct kp kr2 sl sr2 :=
  ⟨put_out (by omega) h.1, has_out (by omega) h.hT, has_out (by omega) h.hC, has_out (by omega) h.hR, has_out (by omega) h.hP, put_out (by omega) h.hK0, put_out (by omega) h.hK1, put_out (by omega) h.hZ, hz, h.h2⟩
theorem XW.updK (h : XW w x t c r p ct kp kr sl sr) {i b : Nat} (hi : i < 4) (hb : kp i = some b) {s : RT} : XW (put w b 19 (shS b s)) x t c r p ct kp (va_up kr i s) sl sr := by
  obtain ⟨l1, l2, l3, l4, l5⟩ := h.hL
  refine h.low (l1 i b hi hb).1 id ⟨fun j b2 hj hb2 => ?_, fun j b2 hj hb2 => lz_putL (l2 j b2 hj hb2) (l5 i j b b2 hi hj hb hb2), l3, l4, l5⟩
  by_cases e : j = i
  · subst e
    have : b2 = b := Option.some.inj (hb2.symm.trans hb)
    subst this
    simp only [va_up, if_true]
    exact lz_self (l1 j b2 hj hb2)
  · simp only [va_up, e, if_false]
    exact lz_putL (l1 j b2 hj hb2) (l3 i j b b2 hi hj (Ne.symm e) hb hb2)
theorem XW.updZ (h : XW w x t c r p ct kp kr sl sr) {i b : Nat} (hi : i < 2) (hb : sl i = some b) {s : RT} : XW (put w b 19 (shS b s)) x t c r p ct kp kr sl (va_up sr i s) := by
  obtain ⟨l1, l2, l3, l4, l5⟩ := h.hL
  refine h.low (l2 i b hi hb).1 id ⟨fun j b2 hj hb2 => lz_putL (l1 j b2 hj hb2) (apart_symm (l5 j i b2 b hj hi hb2 hb)), fun j b2 hj hb2 => ?_, l3, l4, l5⟩
  by_cases e : j = i
  · subst e
    have : b2 = b := Option.some.inj (hb2.symm.trans hb)
    subst this
    simp only [va_up, if_true]
    exact lz_self (l2 j b2 hj hb2)
  · simp only [va_up, e, if_false]
    exact lz_putL (l2 j b2 hj hb2) (l4 i j b b2 hi hj (Ne.symm e) hb hb2)
theorem grow_out {q : Nat} {g : Nat → Cel} {cc : Cel} (hq : q < w.2) (h : w.1 q = some cc) : (put ((w.1, w.2 + 19) : HW) w.2 19 g).1 q = some cc := put_out (w := (w.1, w.2 + 19)) (Or.inl hq) h
theorem grow_has {b n : Nat} {g g' : Nat → Cel} (hb : b + n ≤ w.2) (h : Has w b n g) : Has (put ((w.1, w.2 + 19) : HW) w.2 19 g') b n g := fun k hk => grow_out (by omega) (h k hk)
theorem lz_grow {b : Nat} {s : RT} {g : Nat → Cel} (h : lzS w x b s) : lzS (put ((w.1, w.2 + 19) : HW) w.2 19 g) x b s := ⟨h.1, Nat.le_trans h.2.1 (Nat.le_add_right _ _), grow_has h.2.1 h.2.2⟩
theorem XW.grow (h : XW w x t c r p ct kp kr sl sr) {g : Nat → Cel} : XW (put (w.1, w.2 + 19) w.2 19 g) x t c r p ct kp kr sl sr := by
  have h2 := h.h2
  obtain ⟨l1, l2, l3⟩ := h.hL
  exact ⟨grow_out (by omega) h.1, grow_has (by omega) h.hT, grow_has (by omega) h.hC, grow_has (by omega) h.hR, grow_has (by omega) h.hP, grow_out (by omega) h.hK0, grow_out (by omega) h.hK1, grow_out (by omega) h.hZ, ⟨fun j b hj hb => lz_grow (l1 j b hj hb), fun j b hj hb => lz_grow (l2 j b hj hb), l3⟩, Nat.le_trans h2 (Nat.le_add_right _ _)⟩
theorem XW.addK (h : XW w x t c r p ct kp kr sl sr) {i : Nat} (hi : i < 4) {s : RT} : XW (hset (put (w.1, w.2 + 19) w.2 19 (shS w.2 s)) (x + 42 + 1) (cR 4 (va_up kp i (some w.2)))) x t c r p ct (va_up kp i (some w.2)) (va_up kr i s) sl sr := by
  have h2 := h.h2
  have hg := h.grow (g := shS w.2 s)
  obtain ⟨l1, l2, l3, l4, l5⟩ := h.hL
  have new : lzS (put ((w.1, w.2 + 19) : HW) w.2 19 (shS w.2 s)) x w.2 s := ⟨h2, Nat.le_refl _, has_self⟩
  refine hg.setKp (kr2 := va_up kr i s) ⟨fun j b hj hb => ?_, fun j b hj hb => lz_grow (l2 j b hj hb), fun j j2 b b2 hj hj2 hne hb hb2 => ?_, l4, fun j j2 b b2 hj hj2 hb hb2 => ?_⟩
  · by_cases e : j = i
    · subst e
      simp only [va_up, if_true] at hb ⊢
      cases hb
      exact new
    · simp only [va_up, e, if_false] at hb ⊢
      exact lz_grow (l1 j b hj hb)
  · by_cases e : j = i <;> by_cases e2 : j2 = i
    · exact absurd (e.trans e2.symm) hne
    · simp only [va_up, e, e2, if_true, if_false] at hb hb2
      cases hb
      exact Or.inr (l1 j2 b2 hj2 hb2).2.1
    · simp only [va_up, e, e2, if_true, if_false] at hb hb2
      cases hb2
      exact Or.inl (l1 j b hj hb).2.1
    · simp only [va_up, e, e2, if_false] at hb hb2
      exact l3 j j2 b b2 hj hj2 hne hb hb2
  · by_cases e : j = i
    · simp only [va_up, e, if_true] at hb
      cases hb
      exact Or.inr (l2 j2 b2 hj2 hb2).2.1
    · simp only [va_up, e, if_false] at hb
      exact l5 j j2 b b2 hj hj2 hb hb2
theorem XW.addZ (h : XW w x t c r p ct kp kr sl sr) {i : Nat} (hi : i < 2) {s : RT} : XW (hset (put (w.1, w.2 + 19) w.2 19 (shS w.2 s)) (x + 44) (cR 2 (va_up sl i (some w.2)))) x t c r p ct kp kr (va_up sl i (some w.2)) (va_up sr i s) := by
  have h2 := h.h2
  have hg := h.grow (g := shS w.2 s)
  obtain ⟨l1, l2, l3, l4, l5⟩ := h.hL
  have new : lzS (put ((w.1, w.2 + 19) : HW) w.2 19 (shS w.2 s)) x w.2 s := ⟨h2, Nat.le_refl _, has_self⟩
  refine hg.setZ (sr2 := va_up sr i s) ⟨fun j b hj hb => lz_grow (l1 j b hj hb), fun j b hj hb => ?_, l3, fun j j2 b b2 hj hj2 hne hb hb2 => ?_, fun j j2 b b2 hj hj2 hb hb2 => ?_⟩
  · by_cases e : j = i
    · subst e
      simp only [va_up, if_true] at hb ⊢
      cases hb
      exact new
    · simp only [va_up, e, if_false] at hb ⊢
      exact lz_grow (l2 j b hj hb)
  · by_cases e : j = i <;> by_cases e2 : j2 = i
    · exact absurd (e.trans e2.symm) hne
    · simp only [va_up, e, e2, if_true, if_false] at hb hb2
      cases hb
      exact Or.inr (l2 j2 b2 hj2 hb2).2.1
    · simp only [va_up, e, e2, if_true, if_false] at hb hb2
      cases hb2
      exact Or.inl (l2 j b hj hb).2.1
    · simp only [va_up, e, e2, if_false] at hb hb2
      exact l4 j j2 b b2 hj hj2 hne hb hb2
  · by_cases e : j2 = i
    · simp only [va_up, e, if_true] at hb2
      cases hb2
      exact Or.inl (l1 j b hj hb).2.1
    · simp only [va_up, e, if_false] at hb2
      exact l5 j j2 b b2 hj hj2 hb hb2
def rotK (kp : Nat → Option Nat) : Nat → Option Nat := va_up (va_up (va_up (va_up kp 0 (kp 1)) 1 (kp 2)) 2 (kp 3)) 3 (kp 0)
def rotR (kr : Nat → RT) : Nat → RT := fun j => kr (if j = 3 then 0 else j + 1)
theorem rotK_at (kp : Nat → Option Nat) {j : Nat} (hj : j < 4) : rotK kp j = kp (if j = 3 then 0 else j + 1) := by
  match j, hj with
  | 0, _ => rfl
  | 1, _ => rfl
  | 2, _ => rfl
  | 3, _ => rfl
theorem rot_in {j : Nat} (hj : j < 4) : (if j = 3 then 0 else j + 1) < 4 := by split <;> omega
theorem XW.rot (h : XW w x t c r p ct kp kr sl sr) : XW (hset w (x + 42 + 1) (cR 4 (rotK kp))) x t c r p ct (rotK kp) (rotR kr) sl sr := by
  obtain ⟨l1, l2, l3, l4, l5⟩ := h.hL
  refine h.setKp ⟨fun j b hj hb => ?_, l2, fun j j2 b b2 hj hj2 hne hb hb2 => ?_, l4, fun j j2 b b2 hj hj2 hb hb2 => ?_⟩
  · rw [rotK_at kp hj] at hb; exact l1 _ b (rot_in hj) hb
  · rw [rotK_at kp hj] at hb; rw [rotK_at kp hj2] at hb2
    exact l3 _ _ b b2 (rot_in hj) (rot_in hj2) (by split <;> split <;> omega) hb hb2
  · rw [rotK_at kp hj] at hb; exact l5 _ j2 b b2 (rot_in hj) hj2 hb hb2
end
section
variable {G : GX} {l : Launch} {M : MD} {d mc ms k n pc : Nat} {lv : List (Nat × Value)} {st : List Value} {w : HW} {Q : Option Value → HW → Prop}
theorem x_aaldS {a z b : Nat} {f : Nat → Option Nat} {i : Int32} (j : Nat) (hj : i.toNatClampNeg = j) (hb : f j = some b) (ha : w.1 a = some (cR z f)) (hin : vp_in i z) (hdg : decode M.2.1 pc = .ok (.aaload, 1)) (kk : X G l M d mc ms k n (pc + 1) lv (.ref b :: st) w Q) : X G l M d mc ms k n pc lv (.int i :: .ref a :: st) w Q := by
  refine x_aald ha hin hdg ?_
  rw [hj, hb]
  exact kk
theorem x_aaldN {a z : Nat} {f : Nat → Option Nat} {i : Int32} (j : Nat) (hj : i.toNatClampNeg = j) (hb : f j = none) (ha : w.1 a = some (cR z f)) (hin : vp_in i z) (hdg : decode M.2.1 pc = .ok (.aaload, 1)) (kk : X G l M d mc ms k n (pc + 1) lv (.null :: st) w Q) : X G l M d mc ms k n pc lv (.int i :: .ref a :: st) w Q := by
  refine x_aald ha hin hdg ?_
  rw [hj, hb]
  exact kk
theorem x_aastE {a z v : Nat} {f : Nat → Option Nat} {fs : List Value} {i : Int32} (j : Nat) (hj : i.toNatClampNeg = j) (ha : w.1 a = some (cR z f)) (hv : w.1 v = some (cO 6 fs)) (hin : vp_in i z) (hdg : decode M.2.1 pc = .ok (.aastore, 1)) (kk : X G l M d mc ms k n (pc + 1) lv st (hset w a (cR z (va_up f j (some v)))) Q) : X G l M d mc ms k n pc lv (.ref v :: .int i :: .ref a :: st) w Q := by
  refine x_aast ha hv ⟨_, _, rfl⟩ hin hdg ?_
  rw [hj]
  exact kk
theorem x_astoreN_n {f : Fin 4} {i : Nat} {lv2 : List (Nat × Value)} (hdg : decode M.2.1 pc = .ok (.astore_n f, 1)) (hi : (f : Nat) = i) (hlt : i < M.2.2.1) (he : (i, Value.null) :: lv.filter (fun q => !(q.1 == i) && !(q.1 + 1 == i && q.2.category == 2)) = lv2) (kk : X G l M d mc ms k n (pc + 1) lv2 st w Q) : X G l M d mc ms k n pc lv (.null :: st) w Q := by
  intro p e R s m args below meth c Z H locs ls A E hR hL hl hk hn
  exact lv_astore_nN A.1 A.2.1 hdg hi hl hlt he (fun ls2 hl2 => kk p e R s m args below meth c Z H locs ls2 A E hR hL hl2 hk hn)
theorem x_aloadN_n {f : Fin 4} {i : Nat} (q : Nat) (hdg : decode M.2.1 pc = .ok (.aload_n f, 1)) (hi : (f : Nat) = i) (hq : lv[q]? = some (i, .null)) (kk : X G l M d mc ms k n (pc + 1) lv (.null :: st) w Q) : X G l M d mc ms k n pc lv st w Q := by
  intro p e R s m args below meth c Z H locs ls A E hR hL hl hk hn
  exact lv_aload_nN A.1 A.2.1 hdg hi (lv_at hl q hq) (kk p e R s m args below meth c Z H locs ls A E hR hL hl hk hn)
end
