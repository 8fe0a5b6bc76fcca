/-! the class gathers what its right sides use -/
def Same1 (p y : RT) : Prop := (∀ j, j ≠ 1 → y.1 j = p.1 j) ∧ y.2 = p.2
theorem Same1_r (y : RT) : Same1 y y := ⟨fun _ _ => rfl, rfl⟩
theorem Same1_t {a b c : RT} (h : Same1 a b) (k : Same1 b c) : Same1 a c := ⟨fun j hj => (k.1 j hj).trans (h.1 j hj), k.2.trans h.2⟩
theorem Same1_s (y : RT) (f : Nat → Int32) : Same1 y (rI y 1 f) := ⟨fun _ hj => if_neg hj, rfl⟩
def KN (env : Nat → Int) (S : Nat → Prop) (y : RT) : Prop := ∀ q, q < 22 → S q → y.1 1 q = iz (env q)
theorem KN_put {env : Nat → Int} {S : Nat → Prop} {y : RT} {q : Nat} (h : KN env S y) : KN env (fun r => S r ∨ r = q) (rI y 1 (upd (y.1 1) q (iz (env q)))) := by
  intro r hr hs
  show upd (y.1 1) q (iz (env q)) r = _
  by_cases e : r = q
  · subst e; exact pk_us
  · rw [pk_un e]
    exact h r hr (hs.elim id (fun z => absurd z e))
theorem KN_sub {env : Nat → Int} {S S' : Nat → Prop} {y : RT} (h : KN env S y) (k : ∀ q, q < 22 → S' q → S q) : KN env S' y := fun q hq hs => h q hq (k q hq hs)
theorem n_guessedV {y s : RT} {v : Nat} {a b : Int32} {X G : Int} {K : Int32 → Prop} (hv : v < 3) (h3 : y.1 3 v = iz X) (h4 : y.1 4 v = iz G) (hX : inI X) (hG : inI G) (ha : 0 ≤ a.toInt) (hab : a.toInt ≤ b.toInt) (hb : b.toInt ≤ 10000) (h : K (iz (hdI (X + ((G - X) * a.toInt).tdiv b.toInt)))) (hb0 : 0 < b.toInt) : wp_X7_guessedValue y s (nI v) a b K := by
  refine n_pick (by decide) ?_
  rw [pk_n (by decide) hv, h3]
  intro x2 e2
  subst e2
  refine n_pick (by decide) ?_
  rw [pk_n (by decide) hv, h4]
  intro x4 e4
  subst e4
  obtain ⟨x1, x2⟩ := hX
  obtain ⟨g1, g2⟩ := hG
  have q0 : (iz X).toInt64.toInt = X := by rw [i2l]; exact iz_toInt ⟨x1, x2⟩
  have q1 : ((iz G).toInt64 - (iz X).toInt64).toInt = G - X := l_sub (by rw [i2l]; exact iz_toInt ⟨g1, g2⟩) q0 ⟨by omega, by omega⟩
  have mb := mul_bound (s := G - X) (t := a.toInt) (a := 4294967296) (b := 10000) (by omega) (by omega) (by omega) (by omega)
  have q3 := l_mul q1 (i2l a) ⟨by omega, by omega⟩
  have q4 := l_div q3 (i2l b) (tdiv_inL ⟨by omega, by omega⟩)
  have sc := natAbs_scale (r := G - X) (p := a.toInt) (q := b.toInt) (m := 4294967296) (by omega) (by omega) (by omega) (by omega)
  have q5 := l_add q0 q4 ⟨by omega, by omega⟩
  refine n_quot ?_
  rw [if_neg (l_ne0 hb0)]
  refine n_hold ?_
  rw [q5]
  exact h
theorem n_guessedS {y s : RT} {v : Nat} {b : Int32} {X G : Int} {K : Int32 → Prop} (hv : v < 3) (h3 : y.1 3 v = iz X) (h4 : y.1 4 v = iz G) (hX : inI X) (hG : inI G) (h : K (iz (hdI (((G - X) * 1000).tdiv b.toInt)))) (hb0 : 0 < b.toInt) : wp_X7_guessedSlope y s (nI v) b K := by
  refine n_pick (by decide) (n_pick (by decide) ?_)
  rw [pk_n (by decide) hv, pk_n (by decide) hv, h3, h4]
  intro x3 e3
  subst e3
  obtain ⟨x1, x2⟩ := hX
  obtain ⟨g1, g2⟩ := hG
  have q0 : (iz X).toInt64.toInt = X := by rw [i2l]; exact iz_toInt ⟨x1, x2⟩
  have q1 : ((iz G).toInt64 - (iz X).toInt64).toInt = G - X := l_sub (by rw [i2l]; exact iz_toInt ⟨g1, g2⟩) q0 ⟨by omega, by omega⟩
  have q3 := l_mul q1 (show (1000 : Int64).toInt = 1000 by decide) ⟨by omega, by omega⟩
  have q4 := l_div q3 (i2l b) (tdiv_inL ⟨by omega, by omega⟩)
  refine n_quot ?_
  rw [if_neg (l_ne0 hb0)]
  refine n_hold ?_
  rw [q4]
  exact h
theorem n_gather {p s : RT} {P : PB} {n : Nat} {g : Nat → Int32} {t t0 : Int32} {X G : Nat → Int} {env : Nat → Int} {K : RT → Prop} (hP : POKp P) (hS : SXp s P) (hX : PX s n g) (hG : POK n g) (h0 : 0 ≤ t0.toInt) (ht0 : t0.toInt ≤ (g (n * 8)).toInt) (ht : t0.toInt ≤ t.toInt) (h8 : t.toInt ≤ 8000)
    (hp4 : ∀ v, v < 3 → p.1 4 v = iz (G v) ∧ inI (G v)) (hp3 : ∀ v, v < 3 → p.1 3 v = iz (X v) ∧ inI (X v))
    (e0 : ∀ v, v < 3 → env v = G v) (e3 : env 3 = t.toInt) (e4 : ∀ d v, d < 3 → v < 3 → env (4 + d * 3 + v) = gvZ (tvZ P n g) t0 (t.toInt - t0.toInt) X G v (t - lgI P d t)) (e13 : ∀ d v, d < 3 → v < 3 → env (13 + d * 3 + v) = gsZ (tsZ P n g) t0 (t.toInt - t0.toInt) X G v (t - lgI P d t))
    (h : ∀ y, Same1 p y → KN env (fun q => q < 4 ∨ (bb P).testBit q = true) y → K y) : wp_X7_gather p s t t0 K := by
  have hbl := bb_lt hP
  have hng := (hG.2.2.1 n (Nat.le_refl n)).1
  have hsub : (t - t0).toInt = t.toInt - t0.toInt := i_sub rfl rfl ⟨by omega, by omega⟩
  -- the operands of one delay
  have inner : ∀ (d : Nat) (k54 : Int32 → Int32 → RT → Prop), d < 3 → (∀ y, Same1 p y → KN env (fun q => q < 4 ∨ ((bb P).testBit q = true ∧ ∃ d', d' < d + 1 ∧ opD q d')) y → k54 (nI (bb P)) (nI (d + 1)) y) → ∀ (f v : Nat) (y : RT), f + v = 4 → v ≤ 3 → Same1 p y → KN env (fun q => q < 4 ∨ ((bb P).testBit q = true ∧ ((∃ d', d' < d ∧ opD q d') ∨ ∃ v', v' < v ∧ (q = 4 + d * 3 + v' ∨ q = 13 + d * 3 + v')))) y → lp_X7_gather_101 s t t0 K k54 f (nI (bb P)) (nI d) (t - lgI P d t) (nI (stT n g (t - lgI P d t).toInt)) (nI v) y := by
    intro d k54 hd hk54 f
    obtain ⟨pa, pb, pc⟩ := past_in hP hd (t := t) (by omega) (by omega)
    obtain ⟨la, lb, lc⟩ := lg_in hP hd (t := t) (by omega) (by omega)
    generalize hu : t - lgI P d t = u at pa pb pc
    have hpsub : t0.toInt < u.toInt → (u - t0).toInt = u.toInt - t0.toInt := fun _ => i_sub rfl rfl ⟨by omega, by omega⟩
    induction f with
    | zero => intro v y h1 h2 hy hk; omega
    | succ f ih =>
      intro v y h1 h2 hy hk
      have hy4 : y.1 4 = p.1 4 := hy.1 4 (by decide)
      refine ⟨fun z x12 h12 => ?_, fun z => ?_⟩
      · have hv3 : v = 3 := by have := (nI_leI (a := 3) (by decide) (by omega)).mp z; omega
        subst hv3
        have e12 : x12 = nI (d + 1) := h12.trans (nI_1 d)
        subst e12
        refine hk54 y hy (KN_sub hk (fun q hq hs => hs.elim Or.inl (fun w => Or.inr ⟨w.1, ?_⟩)))
        obtain ⟨d', w1, w2⟩ := w.2
        by_cases e : d' = d
        · subst e
          unfold opD at w2
          rcases w2 with w2 | w2
          · exact Or.inr ⟨q - (4 + d' * 3), by omega, Or.inl (by omega)⟩
          · exact Or.inr ⟨q - (13 + d' * 3), by omega, Or.inr (by omega)⟩
        · exact Or.inl ⟨d', by omega, w2⟩
      · have hv : v < 3 := by
          rcases Nat.lt_or_ge v 3 with w | w
          · exact w
          · exact absurd (nI_le w (by omega)) z
        have nv : nI v + 1 = nI (v + 1) := nI_1 v
        -- the slope
        have hsl : ∀ y, Same1 p y → KN env (fun q => q < 4 ∨ ((bb P).testBit q = true ∧ ((∃ d', d' < d ∧ opD q d') ∨ (∃ v', v' < v ∧ (q = 4 + d * 3 + v' ∨ q = 13 + d * 3 + v')) ∨ q = 4 + d * 3 + v))) y → jp_X7_gather_167 s t t0 K k54 (fun v0 v1 v2 v3 v4 v5 => lp_X7_gather_101 s t t0 K k54 f v0 v1 v2 v3 v4 v5) (nI (bb P)) (nI d) u (nI (stT n g u.toInt)) (nI v) y := by
          intro y hy hk
          have hgo : ∀ y, Same1 p y → KN env (fun q => q < 4 ∨ ((bb P).testBit q = true ∧ ((∃ d', d' < d ∧ opD q d') ∨ (∃ v', v' < v ∧ (q = 4 + d * 3 + v' ∨ q = 13 + d * 3 + v')) ∨ q = 4 + d * 3 + v ∨ q = 13 + d * 3 + v))) y → lp_X7_gather_101 s t t0 K k54 f (nI (bb P)) (nI d) u (nI (stT n g u.toInt)) (nI (v + 1)) y := by
            intro y hy hk
            refine ih (v + 1) y (by omega) (by omega) hy (KN_sub hk (fun q hq hs => hs.elim Or.inl (fun w => Or.inr ⟨w.1, w.2.elim Or.inl (fun ⟨v', w1, w2⟩ => ?_)⟩)))
            by_cases e : v' = v
            · subst e; exact Or.inr (Or.inr w2)
            · exact Or.inr (Or.inl ⟨v', by omega, w2⟩)
          refine n_slopeOp (n_hasBitB hbl (by omega) (fun q => ⟨fun _ x19 h19 => ?_, fun z => absurd rfl z⟩) (fun q => ⟨fun z => absurd z (by decide), fun _ => ?_⟩))
          · rw [nv] at h19
            subst h19
            refine hgo y hy (KN_sub hk (fun r hr hs => hs.elim Or.inl (fun w => Or.inr ⟨w.1, w.2.elim Or.inl (fun w2 => w2.elim (fun w3 => Or.inr (Or.inl w3)) (fun w3 => w3.elim (fun w4 => Or.inr (Or.inr w4)) (fun w4 => ?_)))⟩)))
            rw [w4] at w
            rw [q] at w
            exact absurd w.1 (by decide)
          · have hput : ∀ x : Int32, x = iz (env (13 + d * 3 + v)) → wp_X9_put 22 (y.1 1) (nI (13 + d * 3 + v)) x (fun (f22 : Nat → Int32) => ∀ s23 : RT, s23 = rI y 1 f22 → ∀ x24 : Int32, x24 = nI v + (1 : Int32) → lp_X7_gather_101 s t t0 K k54 f (nI (bb P)) (nI d) u (nI (stT n g u.toInt)) x24 s23) := by
              intro x hx
              refine n_put (by decide) ?_
              rw [pt_n (by decide) (by omega)]
              intro s23 h23 x24 h24
              rw [nv] at h24
              subst h23; subst h24; subst hx
              refine hgo _ (Same1_t hy (Same1_s _ _)) (KN_sub (KN_put hk) (fun r hr hs => hs.elim (fun w => Or.inl (Or.inl w)) (fun w => w.2.elim (fun w2 => Or.inl (Or.inr ⟨w.1, Or.inl w2⟩)) (fun w2 => w2.elim (fun w3 => Or.inl (Or.inr ⟨w.1, Or.inr (Or.inl w3)⟩)) (fun w3 => w3.elim (fun w4 => Or.inl (Or.inr ⟨w.1, Or.inr (Or.inr w4)⟩)) Or.inr)))))
            have ev := e13 d v hd hv
            rw [hu] at ev
            unfold gsZ at ev
            refine ⟨fun z => ?_, fun z => ?_⟩
            · rw [if_pos (i_le.mp z)] at ev
              exact n_slopeIn hS.2.2.2.1 hP.2.2.1 hX hG hv (by have := i_le.mp z; omega) (hput _ (by rw [ev]; rfl))
            · rw [i_le] at z
              rw [if_neg z] at ev
              refine n_guessedS hv (by rw [hy.1 3 (by decide)]; exact (hp3 v hv).1) (by rw [hy.1 4 (by decide)]; exact (hp4 v hv).1) (hp3 v hv).2 (hp4 v hv).2 (hput _ ?_) (by omega)
              rw [hsub, ev]
        refine n_pastOp (n_hasBitB hbl (by omega) (fun q => ⟨fun _ => ?_, fun z => absurd rfl z⟩) (fun q => ⟨fun z => absurd z (by decide), fun _ => ?_⟩))
        · refine hsl y hy (KN_sub hk (fun r hr hs => hs.elim Or.inl (fun w => Or.inr ⟨w.1, w.2.elim Or.inl (fun w2 => w2.elim Or.inr (fun w3 => ?_))⟩)))
          rw [w3] at w
          rw [q] at w
          exact absurd w.1 (by decide)
        · have hput : ∀ x : Int32, x = iz (env (4 + d * 3 + v)) → jp_X7_gather_164 s t t0 K k54 (fun v0 v1 v2 v3 v4 v5 => lp_X7_gather_101 s t t0 K k54 f v0 v1 v2 v3 v4 v5) (nI (bb P)) (nI d) u (nI (stT n g u.toInt)) (nI v) x (nI (4 + d * 3 + v)) y := by
            intro x hx
            refine n_put (by decide) ?_
            rw [pt_n (by decide) (by omega)]
            intro s32 h32
            subst h32; subst hx
            refine hsl _ (Same1_t hy (Same1_s _ _)) (KN_sub (KN_put hk) (fun r hr hs => hs.elim (fun w => Or.inl (Or.inl w)) (fun w => w.2.elim (fun w2 => Or.inl (Or.inr ⟨w.1, Or.inl w2⟩)) (fun w2 => w2.elim (fun w3 => Or.inl (Or.inr ⟨w.1, Or.inr w3⟩)) Or.inr))))
          have ev := e4 d v hd hv
          rw [hu] at ev
          unfold gvZ at ev
          refine ⟨fun z => ?_, fun z => ?_⟩
          · rw [if_pos (i_le.mp z)] at ev
            exact n_valueIn hS.2.2.2.1 hP.2.2.1 hX hG hv (by have := i_le.mp z; omega) (hput _ (by rw [ev]; rfl))
          · rw [i_le] at z
            rw [if_neg z] at ev
            have hp := hpsub (by omega)
            refine n_guessedV hv (by rw [hy.1 3 (by decide)]; exact (hp3 v hv).1) (by rw [hy.1 4 (by decide)]; exact (hp4 v hv).1) (hp3 v hv).2 (hp4 v hv).2 (by omega) (by omega) (by omega) (hput _ ?_) (by omega)
            rw [hsub, hp, ev]
  -- the delays
  have mid : ∀ (f d : Nat) (y : RT), f + d = 4 → d ≤ 3 → Same1 p y → KN env (fun q => q < 4 ∨ ((bb P).testBit q = true ∧ ∃ d', d' < d ∧ opD q d')) y → lp_X7_gather_54 s t t0 K f (nI (bb P)) (nI d) y := by
    intro f
    induction f with
    | zero => intro d y h1 h2 hy hk; omega
    | succ f ih =>
      intro d y h1 h2 hy hk
      refine ⟨fun z => ?_, fun z => ?_⟩
      · have hd3 : d = 3 := by have := (nI_leI (a := 3) (by decide) (by omega)).mp z; omega
        subst hd3
        refine h y hy (KN_sub hk (fun q hq hs => hs.elim Or.inl (fun w => ?_)))
        by_cases q4 : q < 4
        · exact Or.inl q4
        · refine Or.inr ⟨w, ?_⟩
          unfold opD
          by_cases q13 : q < 13
          · exact ⟨(q - 4) / 3, by omega, Or.inl (by omega)⟩
          · exact ⟨(q - 13) / 3, by omega, Or.inr (by omega)⟩
      · have hd : d < 3 := by
          rcases Nat.lt_or_ge d 3 with w | w
          · exact w
          · exact absurd (nI_le w (by omega)) z
        refine n_needsDelay hbl hd (fun q => ⟨fun _ => ?_, fun w => absurd w (by decide)⟩) (fun q => ⟨fun w => absurd rfl w, fun _ x34 h34 => ?_⟩)
        · refine n_lagX hP.2.1 hS.2.1 hS.2.2.1 hd (by omega) (by omega) ?_
          intro x9 h9
          have e9 : x9 = t - lgI P d t := h9
          subst e9
          refine n_stepTo hX hG ⟨4, ?_⟩
          refine inner d _ hd (fun y hy hk => ih (d + 1) y (by omega) (by omega) hy hk) 4 0 y rfl (by decide) hy (KN_sub hk (fun q hq hs => hs.elim Or.inl (fun w => Or.inr ⟨w.1, w.2.elim id (fun ⟨v', w1, _⟩ => by omega)⟩)))
        · have e34 : x34 = nI (d + 1) := h34.trans (nI_1 d)
          subst e34
          refine ih (d + 1) y (by omega) (by omega) hy (KN_sub hk (fun r hr hs => hs.elim Or.inl (fun ⟨w1, d', w2, w3⟩ => ?_)))
          by_cases e : d' = d
          · subst e; exact absurd ⟨r, w3, w1⟩ q
          · exact Or.inr ⟨w1, d', by omega, w3⟩
  have vars : ∀ (f v : Nat) (y : RT), f + v = 4 → v ≤ 3 → Same1 p y → KN env (fun q => q = 3 ∨ q < v) y → lp_X7_gather_21 s t t0 K f (nI (bb P)) (nI v) y := by
    intro f
    induction f with
    | zero => intro v y h1 h2 hy hk; omega
    | succ f ih =>
      intro v y h1 h2 hy hk
      refine ⟨fun z => ⟨4, mid 4 0 y rfl (by decide) hy (KN_sub hk (fun q hq hs => ?_))⟩, fun z => ?_⟩
      · have := (nI_leI (a := 3) (by decide) (by omega)).mp z
        rcases hs with w | ⟨_, d', w, _⟩
        · omega
        · omega
      · have hv : v < 3 := by
          rcases Nat.lt_or_ge v 3 with w | w
          · exact w
          · exact absurd (nI_le w (by omega)) z
        refine n_pick (by decide) (n_put (by decide) ?_)
        rw [pk_n (by decide) hv, pt_n (by decide) (by omega), hy.1 4 (by decide), (hp4 v hv).1, ← e0 v hv]
        intro s37 h37 x38 h38
        have e38 : x38 = nI (v + 1) := h38.trans (nI_1 v)
        subst h37; subst e38
        exact ih (v + 1) _ (by omega) (by omega) (Same1_t hy (Same1_s _ _)) (KN_sub (KN_put hk) (fun q hq hs => by omega))
  refine n_allOps hP hS ?_
  rw [show (3 : Int32) = nI 3 from rfl]
  refine n_put (by decide) ?_
  rw [pt_n (by decide) (by decide)]
  intro s3 h3
  have et : t = iz (env 3) := by rw [e3]; exact (iz_of t).symm
  refine ⟨4, vars 4 0 s3 rfl (by decide) (by rw [h3]; exact Same1_s _ _) (fun q hq hs => ?_)⟩
  have e : q = 3 := by omega
  subst e
  rw [h3, ← et]
  show upd (p.1 1) 3 t 3 = t
  exact pk_us
/-- the right side of a variable, from what was gathered -/
theorem n_workCD {p s : RT} {v : Nat} {c : List (Nat × Nat)} {env : Nat → Int} {K : Int32 → RT → Prop} (hv : v < 3) (hC : CDX s v c) (h80 : c.length ≤ 80) (hW : wfC c 0)
    (hk : ∀ e, e ∈ c → e.1 = 1 → p.1 1 e.2 = iz (env e.2) ∧ -2000000000 ≤ env e.2 ∧ env e.2 ≤ 2000000000) (h : ∀ y, Same2 p y → K (iz (valC env c)) y) : wp_X5_workOut p s (nI v) K := by
  rcases hC.1 with ⟨h1, h2⟩ | ⟨h1, h2⟩
  · exact n_workOut hv h1 h80 h2 hW hk h
  · subst h2
    refine n_pick (by decide) ?_
    rw [pk_n (by decide) hv, h1]
    intro x2 e2
    have e2 : x2 = nI 0 := e2
    subst e2
    refine ⟨1, fun _ => ⟨fun _ => h p ⟨fun _ _ => rfl, rfl⟩, fun z => absurd z (by decide)⟩, fun z => absurd (Int32.le_refl _) z⟩
theorem n_workP {p s : RT} {P : PB} {v : Nat} {env : Nat → Int} {K : Int32 → RT → Prop} (hP : POKp P) (hS : SXp s P) (hv : v < 3) (hE : ∀ q, q < 22 → bd2 (env q)) (hk : KN env (fun q => q < 4 ∨ (bb P).testBit q = true) p) (h : ∀ y, Same2 p y → K (iz (valC env (cd P v))) y) : wp_X5_workOut p s (nI v) K := by
  refine n_workCD hv (hS.1 v hv) (tx_len (hP.1 v hv)) (tx_wf (hP.1 v hv)) (fun e he h1 => ?_) h
  have h22 := tx_opB (hP.1 v hv) e he h1
  exact ⟨hk e.2 h22 (Or.inr (bb_bit hv ⟨e, he, h1, rfl⟩)), hE e.2 h22⟩
