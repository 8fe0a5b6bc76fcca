/-! right sides: the code for a stack, worked out by the class -/
def joinZ (k : Nat) (a b : Int) : Int := if k = 2 then hdI (a + b) else if k = 3 then hdI (a - b) else if k = 4 then hdI ((a * b).tdiv 1000) else if k = 5 then hdI (if b = 0 then 0 else (a * 1000).tdiv b) else if k = 7 then (if b < a then b else a) else (if b < a then a else b)
def isBin (k : Nat) : Prop := k = 2 ∨ k = 3 ∨ k = 4 ∨ k = 5 ∨ k = 7 ∨ k = 8
def evS (env : Nat → Int) (st : List Int) (e : Nat × Nat) : List Int := if e.1 = 0 then (e.2 : Int) :: st else if e.1 = 1 then env e.2 :: st else if e.1 = 6 then (match st with | a :: r => hdI (-a) :: r | [] => []) else (match st with | b :: a :: r => joinZ e.1 a b :: r | _ => [])
def evC (env : Nat → Int) (c : List (Nat × Nat)) (st : List Int) : List Int := c.foldl (evS env) st
def valC (env : Nat → Int) (c : List (Nat × Nat)) : Int := (evC env c []).headD 0
def wfC : List (Nat × Nat) → Nat → Prop
  | [], h => h = 1
  | e :: r, h => e.2 < 100000000 ∧ ((e.1 = 0 ∧ wfC r (h + 1)) ∨ (e.1 = 1 ∧ e.2 < 22 ∧ wfC r (h + 1)) ∨ (e.1 = 6 ∧ 1 ≤ h ∧ wfC r h) ∨ (isBin e.1 ∧ 2 ≤ h ∧ wfC r (h - 1)))
def StX (f : Nat → Int32) : List Int → Prop
  | [] => True
  | a :: r => f r.length = iz a ∧ StX f r
def StB : List Int → Prop
  | [] => True
  | a :: r => (-2000000000 ≤ a ∧ a ≤ 2000000000) ∧ StB r
def CodeX (f : Nat → Int32) : Nat → List (Nat × Nat) → Prop
  | _, [] => True
  | b, e :: r => f b = nI (e.2 * 16 + e.1) ∧ CodeX f (b + 1) r
def Same2 (p y : RT) : Prop := (∀ j, j ≠ 2 → y.1 j = p.1 j) ∧ y.2 = p.2
theorem StX_upd {f : Nat → Int32} {k : Nat} {x : Int32} : ∀ {st : List Int}, StX f st → st.length ≤ k → StX (upd f k x) st := by
  intro st
  induction st with
  | nil => intro _ _; trivial
  | cons a r ih =>
    intro h hk
    simp only [List.length_cons] at hk
    refine ⟨?_, ih h.2 (by omega)⟩
    unfold upd
    rw [if_neg (by omega)]
    exact h.1
theorem joinZ_in {k : Nat} {a b : Int} (ha : -2000000000 ≤ a ∧ a ≤ 2000000000) (hb : -2000000000 ≤ b ∧ b ≤ 2000000000) : -2000000000 ≤ joinZ k a b ∧ joinZ k a b ≤ 2000000000 := by
  unfold joinZ
  have h := fun z => hdI_in z
  split
  · have := h (a + b); omega
  · split
    · have := h (a - b); omega
    · split
      · have := h ((a * b).tdiv 1000); omega
      · split
        · generalize (if b = 0 then 0 else (a * 1000).tdiv b) = z
          have := h z; omega
        · split
          · split <;> omega
          · split <;> omega
theorem prod_bound {a b : Int} (ha : -2000000000 ≤ a ∧ a ≤ 2000000000) (hb : -2000000000 ≤ b ∧ b ≤ 2000000000) : -4000000000000000000 ≤ a * b ∧ a * b ≤ 4000000000000000000 := by
  by_cases q : 0 ≤ b
  · have := mul_bound (s := a) (t := b) (a := 2000000000) (b := 2000000000) ha.1 ha.2 q hb.2
    omega
  · have := mul_bound (s := a) (t := -b) (a := 2000000000) (b := 2000000000) ha.1 ha.2 (by omega) (by omega)
    rw [Int.mul_neg] at this
    omega
/-- the same by Int64, for both programs -/
theorem join_mul {x y : Int64} {a b : Int} (hx : x.toInt = a) (hy : y.toInt = b) (ha : -2000000000 ≤ a ∧ a ≤ 2000000000) (hb : -2000000000 ≤ b ∧ b ≤ 2000000000) : ((x * y) / (1000 : Int64)).toInt = (a * b).tdiv 1000 := by
  have pb := prod_bound ha hb
  exact l_div (l_mul hx hy ⟨by omega, by omega⟩) (by decide) (tdiv_inL ⟨by omega, by omega⟩)
theorem join_quo {x y : Int64} {a b : Int} (hx : x.toInt = a) (hy : y.toInt = b) (ha : -2000000000 ≤ a ∧ a ≤ 2000000000) : (if y = 0 then 0 else (x * (1000 : Int64)) / y).toInt = if b = 0 then 0 else (a * 1000).tdiv b := by
  have e : y = 0 ↔ b = 0 := by rw [l_eq, hy]; simp only [Int64.toInt_zero]
  by_cases q : b = 0
  · rw [if_pos (e.mpr q), if_pos q]; rfl
  · rw [if_neg (fun z => q (e.mp z)), if_neg q]
    exact l_div (l_mul hx (by decide) ⟨by omega, by omega⟩) hy (tdiv_inL ⟨by omega, by omega⟩)
theorem n_join {k : Nat} {x y : Int64} {a b : Int} {K : Int32 → Prop} (hk : isBin k) (hx : x.toInt = a) (hy : y.toInt = b) (ha : -2000000000 ≤ a ∧ a ≤ 2000000000) (hb : -2000000000 ≤ b ∧ b ≤ 2000000000) (h : K (iz (joinZ k a b))) : wp_X5_join (nI k) x y K := by
  have hk9 : k ≤ 8 := by unfold isBin at hk; omega
  have ne : ∀ j : Nat, j < 2 ^ 31 → (nI k = nI j ↔ k = j) := fun j hj => nI_eq (by omega) hj
  have n2 : nI k = 2 ↔ k = 2 := ne 2 (by omega)
  have n3 : nI k = 3 ↔ k = 3 := ne 3 (by omega)
  have n4 : nI k = 4 ↔ k = 4 := ne 4 (by omega)
  have n5 : nI k = 5 ↔ k = 5 := ne 5 (by omega)
  have n7 : nI k = 7 ↔ k = 7 := ne 7 (by omega)
  unfold wp_X5_join
  rw [n2, n3, n4, n5, n7]
  unfold joinZ at h
  refine ⟨fun q => n_hold ?_, fun q2 => ⟨fun q => n_hold ?_, fun q3 => ⟨fun q => n_hold ?_, fun q4 => ⟨fun q => n_quot (n_hold ?_), fun q5 => ⟨fun q => ?_, fun q7 => ?_⟩⟩⟩⟩⟩
  · rw [if_pos q] at h
    rw [l_add hx hy ⟨by omega, by omega⟩]; exact h
  · rw [if_neg q2, if_pos q] at h
    rw [l_sub hx hy ⟨by omega, by omega⟩]; exact h
  · rw [if_neg q2, if_neg q3, if_pos q] at h
    rw [join_mul hx hy ha hb]; exact h
  · rw [if_neg q2, if_neg q3, if_neg q4, if_pos q] at h
    rw [join_quo hx hy ha]; exact h
  · rw [if_neg q2, if_neg q3, if_neg q4, if_neg q5, if_pos q] at h
    rw [l2i_iz]
    by_cases w : b < a
    · rw [if_pos (by rw [l_lt, hx, hy]; exact w), hy]
      rw [if_pos w] at h; exact h
    · rw [if_neg (by rw [l_lt, hx, hy]; exact w), hx]
      rw [if_neg w] at h; exact h
  · rw [if_neg q2, if_neg q3, if_neg q4, if_neg q5, if_neg q7] at h
    unfold jp_X5_join_85
    rw [l2i_iz]
    by_cases w : b < a
    · rw [if_pos (by rw [l_lt, hx, hy]; exact w), hx]
      rw [if_pos w] at h; exact h
    · rw [if_neg (by rw [l_lt, hx, hy]; exact w), hy]
      rw [if_neg w] at h; exact h
theorem n_workOut {p s : RT} {v : Nat} {c : List (Nat × Nat)} {env : Nat → Int} {K : Int32 → RT → Prop} (hv : v < 3) (hl : s.1 3 v = nI c.length) (h80 : c.length ≤ 80) (hC : CodeX (s.1 2) (v * 80) c) (hW : wfC c 0)
    (hk : ∀ e, e ∈ c → e.1 = 1 → p.1 1 e.2 = iz (env e.2) ∧ -2000000000 ≤ env e.2 ∧ env e.2 ≤ 2000000000) (h : ∀ y, Same2 p y → K (iz (valC env c)) y) : wp_X5_workOut p s (nI v) K := by
  have key : ∀ (r : List (Nat × Nat)) (n : Nat) (st : List Int) (y : RT), n + r.length = c.length → (∀ e, e ∈ r → e ∈ c) → CodeX (s.1 2) (v * 80 + n) r → wfC r st.length → st.length ≤ n → Same2 p y → StX (y.1 2) st → StB st → (evC env r st).headD 0 = valC env c →
      lp_X5_workOut_21 s (nI v) K (r.length + 1) (nI c.length) (nI st.length) (nI n) y := by
    intro r
    induction r with
    | nil =>
      intro n st y hn hm hC hW hh hy hS hb hv
      have h1 : st.length = 1 := hW
      refine ⟨fun _ => ⟨fun q => absurd (by rw [h1]; rfl) q, fun _ => n_pick (by decide) ?_⟩, fun q => absurd (nI_le (show c.length ≤ n by simp at hn; omega) (by simp at hn; omega)) q⟩
      obtain ⟨a, rfl⟩ : ∃ a, st = [a] := by
        match st, h1 with
        | [a], _ => exact ⟨a, rfl⟩
      rw [show (0 : Int32) = nI 0 from rfl, pk_n (by decide) (by decide)]
      have e : y.1 2 0 = iz a := hS.1
      rw [e]
      have e2 : a = valC env c := hv
      rw [e2]; exact h y hy
    | cons e r ih =>
      intro n st y hn hm hC hW hh hy hS hb hvv
      simp only [List.length_cons] at hn ⊢
      have he := hC.1
      have hCr : CodeX (s.1 2) (v * 80 + (n + 1)) r := hC.2
      have hmr : ∀ e', e' ∈ r → e' ∈ c := fun e' he' => hm e' (List.mem_cons_of_mem _ he')
      have hec := hm e (List.mem_cons_self ..)
      have hev : (evC env r (evS env st e)).headD 0 = valC env c := hvv
      have hW2 : e.2 < 100000000 ∧ ((e.1 = 0 ∧ wfC r (st.length + 1)) ∨ (e.1 = 1 ∧ e.2 < 22 ∧ wfC r (st.length + 1)) ∨ (e.1 = 6 ∧ 1 ≤ st.length ∧ wfC r st.length) ∨ (isBin e.1 ∧ 2 ≤ st.length ∧ wfC r (st.length - 1))) := hW
      obtain ⟨hd, hW3⟩ := hW2
      have hk8 : e.1 ≤ 8 := by
        unfold isBin at hW3
        omega
      refine ⟨fun q => absurd ((nI_leI (by omega) (by omega)).mp q) (by omega), fun _ => ?_⟩
      rw [show nI v * 80 + nI n = nI (v * 80 + n) by rw [show (80 : Int32) = nI 80 from rfl, pk_mul, nI_add]]
      refine n_pick (by decide) ?_
      rw [pk_n (by decide) (by omega), he]
      intro x7 hx7 x8 hx8
      have e7 : x7 = nI e.1 := by
        rw [hx7, pk_andN (by omega) 4 (by decide)]
        congr 1
        omega
      have e8 : x8 = nI e.2 := by
        rw [hx8, pk_shrN (by omega) _ 4 (by decide)]
        congr 1
        omega
      subst e7; subst e8
      have ne : ∀ j : Nat, j < 2 ^ 31 → (nI e.1 = nI j ↔ e.1 = j) := fun j hj => nI_eq (by omega) hj
      have n0 : nI e.1 = 0 ↔ e.1 = 0 := ne 0 (by omega)
      have n1 : nI e.1 = 1 ↔ e.1 = 1 := ne 1 (by omega)
      have n6 : nI e.1 = 6 ↔ e.1 = 6 := ne 6 (by omega)
      -- a number is put on the stack
      have hpush : ∀ (z : Int), (-2000000000 ≤ z ∧ z ≤ 2000000000) → evS env st e = z :: st → wfC r (st.length + 1) → jp_X5_workOut_87 s (nI v) K (fun v0 v1 v2 v3 => lp_X5_workOut_21 s (nI v) K (r.length + 1) v0 v1 v2 v3) (nI c.length) (nI st.length) (nI n) (iz z) (nI st.length) y := by
        intro z hz hes hwr
        refine n_put (by decide) ?_
        rw [pt_n (by decide) (by omega)]
        intro s13 h13; subst h13
        intro x14 hx14 x15 hx15
        have e14 : x14 = nI (st.length + 1) := hx14.trans (nI_1 _)
        have e15 : x15 = nI (n + 1) := hx15.trans (nI_1 _)
        subst e14; subst e15
        rw [hes] at hev
        refine ih (n + 1) (z :: st) _ (by omega) hmr hCr hwr (by simp only [List.length_cons]; omega) ⟨fun j hj => ?_, hy.2⟩ ⟨?_, StX_upd hS (Nat.le_refl _)⟩ ⟨hz, hb⟩ hev
        · show (if j = 2 then _ else y.1 j) = p.1 j
          rw [if_neg hj]; exact hy.1 j hj
        · show upd (y.1 2) st.length (iz z) st.length = iz z
          exact if_pos rfl
      have hput : ∀ (z : Int) (t : List Int) (y2 : RT), y2 = rI y 2 (upd (y.1 2) t.length (iz z)) → (-2000000000 ≤ z ∧ z ≤ 2000000000) → evS env st e = z :: t → StX (y.1 2) t → StB t → t.length + 1 ≤ st.length → wfC r (t.length + 1) → lp_X5_workOut_21 s (nI v) K (r.length + 1) (nI c.length) (nI (t.length + 1)) (nI n + 1) y2 := by
        intro z t y2 hy2 hz hes hst hbt htl hwr
        subst hy2
        rw [nI_1]
        rw [hes] at hev
        refine ih (n + 1) (z :: t) _ (by omega) hmr hCr hwr (by simp only [List.length_cons]; omega) ⟨fun j hj => ?_, hy.2⟩ ⟨?_, StX_upd hst (Nat.le_refl _)⟩ ⟨hz, hbt⟩ hev
        · show (if j = 2 then _ else y.1 j) = p.1 j
          rw [if_neg hj]; exact hy.1 j hj
        · show upd (y.1 2) t.length (iz z) t.length = iz z
          exact if_pos rfl
      rw [n0, n1, n6]
      refine ⟨fun q => ?_, fun q0 => ⟨fun q1 => ⟨fun q6 => ?_, fun q6 => ?_⟩, fun q1 => ?_⟩⟩
      · have hwr : wfC r (st.length + 1) := by
          unfold isBin at hW3
          rcases hW3 with w | w | w | w
          · exact w.2
          · omega
          · omega
          · omega
        refine ⟨fun z => absurd (by rw [q]; rfl) z, fun _ => ?_⟩
        have en : nI e.2 = iz (e.2 : Int) := by apply i_ext; rw [nI_int (by omega), iz_toInt ⟨by omega, by omega⟩]
        rw [en]
        exact hpush _ (by omega) (by unfold evS; rw [if_pos q]) hwr
      · have hb3 : isBin e.1 ∧ 2 ≤ st.length ∧ wfC r (st.length - 1) := by
          rcases hW3 with w | w | w | w
          · exact absurd w.1 q0
          · exact absurd w.1 q1
          · exact absurd w.1 q6
          · exact w
        obtain ⟨b, a, t, rfl⟩ : ∃ b a t, st = b :: a :: t := by
          match st, hb3.2.1 with
          | b :: a :: t, _ => exact ⟨b, a, t, rfl⟩
        simp only [List.length_cons] at hb3 hh hpush hput ⊢
        intro x18 hx18
        have e18 : x18 = nI (t.length + 1) := hx18.trans (pk_m1 _)
        subst e18
        rw [p1 (show t.length + 1 ≠ 0 by omega), show t.length + 1 - 1 = t.length from rfl]
        have ha : y.1 2 t.length = iz a := hS.2.1
        have hbb : y.1 2 (t.length + 1) = iz b := hS.1
        have iba := hb.2.1
        have ibb := hb.1
        refine n_pick (by decide) (n_pick (by decide) ?_)
        rw [pk_n (by decide) (by omega), pk_n (by decide) (by omega), ha, hbb]
        refine n_join hb3.1 (by rw [i2l, iz_toInt ⟨by omega, by omega⟩]) (by rw [i2l, iz_toInt ⟨by omega, by omega⟩]) iba ibb (n_put (by decide) ?_)
        rw [pt_n (by decide) (by omega)]
        intro s23 h23 x24 hx24
        subst hx24
        refine hput _ t s23 h23 (joinZ_in iba ibb) ?_ hS.2.2 hb.2.2 (by omega) hb3.2.2
        show (if e.1 = 0 then _ else if e.1 = 1 then _ else if e.1 = 6 then _ else _) = _
        rw [if_neg q0, if_neg q1, if_neg q6]
      · have hb3 : 1 ≤ st.length ∧ wfC r st.length := by
          unfold isBin at hW3
          rcases hW3 with w | w | w | w
          · exact absurd w.1 q0
          · exact absurd w.1 q1
          · exact w.2
          · omega
        obtain ⟨a, t, rfl⟩ : ∃ a t, st = a :: t := by
          match st, hb3.1 with
          | a :: t, _ => exact ⟨a, t, rfl⟩
        simp only [List.length_cons] at hb3 hh hpush hput ⊢
        rw [p1 (show t.length + 1 ≠ 0 by omega), show t.length + 1 - 1 = t.length from rfl]
        have ha : y.1 2 t.length = iz a := hS.1
        have iba := hb.1
        refine n_pick (by decide) ?_
        rw [pk_n (by decide) (by omega), ha]
        refine n_hold (n_put (by decide) ?_)
        rw [pt_n (by decide) (by omega), l_neg (a := a) (by rw [i2l, iz_toInt ⟨by omega, by omega⟩]) ⟨by omega, by omega⟩]
        intro s28 h28 x29 hx29
        subst hx29
        have hh2 := hdI_in (-a)
        refine hput _ t s28 h28 ⟨by omega, by omega⟩ ?_ hS.2 hb.2 (by omega) hb3.2
        show (if e.1 = 0 then _ else if e.1 = 1 then _ else if e.1 = 6 then _ else _) = _
        rw [if_neg q0, if_neg q1, if_pos q6]
      · have hwr : e.2 < 22 ∧ wfC r (st.length + 1) := by
          unfold isBin at hW3
          rcases hW3 with w | w | w | w
          · exact absurd w.1 q0
          · exact w.2
          · omega
          · omega
        have hke := hk e hec q1
        refine ⟨fun _ => n_pick (by decide) ?_, fun z => absurd (n0.mp z) q0⟩
        rw [pk_n (by decide) hwr.1, hy.1 1 (by decide), hke.1]
        exact hpush _ hke.2 (by unfold evS; rw [if_neg q0, if_pos q1]) hwr.2
  refine n_pick (by decide) ?_
  rw [pk_n (by decide) hv, hl]
  intro x2 hx2
  have e2 : x2 = nI c.length := by
    rw [hx2, show (80 : Int32) = nI 80 from rfl]
    by_cases q : c.length < 80
    · rw [if_pos ((nI_ltI (by omega) (by decide)).mpr q)]
    · rw [if_neg (fun w => q ((nI_ltI (by omega) (by decide)).mp w)), show c.length = 80 by omega]
  subst e2
  exact ⟨c.length + 1, key c 0 [] p (by omega) (fun e he => he) hC hW (Nat.le_refl 0) ⟨fun _ _ => rfl, rfl⟩ trivial trivial rfl⟩
