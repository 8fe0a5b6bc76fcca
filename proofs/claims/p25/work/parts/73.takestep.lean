/-! the class's whole step -/
theorem iz_r {z : Int} (h : bd1 z) : (iz z).toInt = z := by unfold bd1 at h; exact iz_toInt ⟨by omega, by omega⟩
theorem iz_r2 {z : Int} (h : bd2 z) : (iz z).toInt = z := by unfold bd2 at h; exact iz_toInt ⟨by omega, by omega⟩
theorem bd1_I {z : Int} (h : bd1 z) : inI z := by unfold bd1 at h; exact ⟨by omega, by omega⟩
theorem bd1_2 {z : Int} (h : bd1 z) : bd2 z := by unfold bd1 at h; exact ⟨by omega, by omega⟩
theorem stX_bd {n v : Nat} {g : Nat → Int32} (hG : POK n g) (hv : v < 3) : bd1 (stX g n v) := (hG.2.2.1 n (Nat.le_refl n)).2 v hv
theorem guess_mul {x k l : Int64} {X Kk Ll : Int} {h : Nat} (hx : x.toInt = X) (hk : k.toInt = Kk) (hl : l.toInt = Ll) (bx : bd1 X) (bk : bd2 Kk) (bl : bd2 Ll) (h5 : h ≤ 500) : (x + ((k + l) * (nI h).toInt64) / (2000 : Int64)).toInt = X + ((Kk + Ll) * h).tdiv 2000 := by
  unfold bd1 at bx
  unfold bd2 at bk bl
  have eh : (nI h).toInt64.toInt = (h : Int) := by rw [i2l]; exact nI_int (by omega)
  have q1 := l_add hk hl ⟨by omega, by omega⟩
  have mb := mul_bound (s := Kk + Ll) (t := (h : Int)) (a := 4000000000) (b := 500) (by omega) (by omega) (by omega) (by omega)
  have q2 := l_mul q1 eh ⟨by omega, by omega⟩
  have q3 := l_div q2 (show (2000 : Int64).toInt = 2000 by decide) (tdiv_inL ⟨by omega, by omega⟩)
  have q4 := tdiv_abs ((Kk + Ll) * (h : Int)) 2000
  exact l_add hx q3 ⟨by omega, by omega⟩
theorem guess_mul0 {x k : Int64} {X Kk : Int} {h : Nat} (hx : x.toInt = X) (hk : k.toInt = Kk) (bx : bd1 X) (bk : bd2 Kk) (h5 : h ≤ 500) : (x + (k * (nI h).toInt64) / (1000 : Int64)).toInt = X + (Kk * h).tdiv 1000 := by
  unfold bd1 at bx
  unfold bd2 at bk
  have eh : (nI h).toInt64.toInt = (h : Int) := by rw [i2l]; exact nI_int (by omega)
  have mb := mul_bound (s := Kk) (t := (h : Int)) (a := 2000000000) (b := 500) (by omega) (by omega) (by omega) (by omega)
  have q2 := l_mul hk eh ⟨by omega, by omega⟩
  have q3 := l_div q2 (show (1000 : Int64).toInt = 1000 by decide) (tdiv_inL ⟨by omega, by omega⟩)
  have q4 := tdiv_abs (Kk * (h : Int)) 1000
  exact l_add hx q3 ⟨by omega, by omega⟩
theorem n_takeStep {p s : RT} {P : PB} {n tn h : Nat} {g : Nat → Int32} {K : RT → RT → Prop} (hP : POKp P) (hS : SXp s P) (hX : PX s n g) (hG : POK n g) (h0 : Row0 P g) (hn : n < 960) (ht : g (n * 8) = nI tn) (h1 : 1 ≤ h) (h5 : h ≤ 500) (h8 : tn + h ≤ 8000)
    (hK : ∀ p' s', Same18 s s' → PX s' (n + 1) (stepG P n tn g h) → K p' s') : wp_X7_takeStep p s (nI tn) (nI h) K := by
  have et : (nI tn).toInt = (tn : Int) := nI_int (by omega)
  have eth : (nI tn + nI h).toInt = ((tn + h : Nat) : Int) := by rw [nI_add]; exact nI_int (by omega)
  have hgt : (g (n * 8)).toInt = (tn : Int) := by rw [ht]; exact et
  have hb0 := env0_bd (P := P) (n := n) (g := g) hP (show tn ≤ 8000 by omega)
  have hb1 := fun G => env1_bd (P := P) (n := n) (g := g) (G := G) hP h8
  have hbX := fun v (hv : v < 3) => stX_bd hG hv
  have hbK := fun v (hv : v < 3) => stK_bd (n := n) (g := g) hP hv (show tn ≤ 8000 by omega)
  have hxr : ∀ v, v < 3 → g (n * 8 + 1 + v) = iz (stX g n v) := fun v hv => (iz_of _).symm
  -- the rounds
  have rounds : ∀ (f i : Nat) (y : RT), i + f = rdS P (nI tn + nI h) h + 2 → i ≤ rdS P (nI tn + nI h) h + 1 → (∀ v, v < 3 → y.1 3 v = iz (stX g n v)) → (∀ v, v < 3 → y.1 5 v = iz (stK P n tn g v)) → (∀ v, v < 3 → y.1 4 v = iz (stI P n tn g h i v)) → lp_X7_takeStep_158 (nI tn) (nI h) K f (nI (rdS P (nI tn + nI h) h)) (nI i) y s := by
    have hr4 := rdS_le hP (t := nI tn + nI h) (h := h)
    intro f
    induction f with
    | zero => intro i y a b; omega
    | succ f ih =>
      intro i y a b y3 y5 y4
      refine ⟨fun z => ?_, fun z => ?_⟩
      · have hi : i = rdS P (nI tn + nI h) h + 1 := by have := (nI_ltI (by omega) (by omega)).mp z; omega
        refine n_append hX hn ht y5 y4 (fun s' g' q0 q1 q2 q3 q4 q5 q6 q7 => hK y s' q0 ⟨q7, fun j hj => ?_⟩)
        rw [q6]
        by_cases c1 : j < n * 8 + 4
        · rw [q1 j c1, stepG_old c1]
        · by_cases c2 : j < n * 8 + 7
          · have := q2 (j - (n * 8 + 4)) (by omega)
            rw [show n * 8 + 4 + (j - (n * 8 + 4)) = j by omega] at this
            rw [this]
            have := stepG_k (P := P) (n := n) (tn := tn) (g := g) (h := h) (v := j - (n * 8 + 4)) (by omega)
            rw [show n * 8 + 4 + (j - (n * 8 + 4)) = j by omega] at this
            exact this.symm
          · by_cases c3 : j = n * 8 + 7
            · subst c3; rw [q3, stepG_r]
            · by_cases c4 : j = (n + 1) * 8
              · subst c4; rw [q4, stepG_t]
              · have := q5 (j - ((n + 1) * 8 + 1)) (by omega)
                rw [show (n + 1) * 8 + 1 + (j - ((n + 1) * 8 + 1)) = j by omega] at this
                rw [this, hi]
                have := stepG_y (P := P) (n := n) (tn := tn) (g := g) (h := h) (v := j - ((n + 1) * 8 + 1)) (by omega)
                rw [show (n + 1) * 8 + 1 + (j - ((n + 1) * 8 + 1)) = j by omega] at this
                exact this.symm
      · have hi : i ≤ rdS P (nI tn + nI h) h := by
          rcases Nat.lt_or_ge (rdS P (nI tn + nI h) h) i with w | w
          · exact absurd (nI_lt w (by omega)) z
          · exact w
        refine n_gather (t := nI tn + nI h) (t0 := nI tn) (X := stX g n) (G := stI P n tn g h i) (env := env1 P n tn g h (stI P n tn g h i)) hP hS hX hG (by omega) (by omega) (by omega) (by omega) (fun v hv => ⟨y4 v hv, bd1_I stI_bd⟩) (fun v hv => ⟨y3 v hv, bd1_I (hbX v hv)⟩) (fun v hv => ?_) envF_t (fun d v hd hv => ?_) (fun d v hd hv => ?_) (fun y1 hy1 hk1 => ?_)
        · rw [show env1 P n tn g h (stI P n tn g h i) v = _ from envF_v hv]
          exact guess_self h8 h1 stI_bd
        · rw [show env1 P n tn g h (stI P n tn g h i) (4 + d * 3 + v) = _ from envF_p hd hv, eth, et, show ((tn + h : Nat) : Int) - (tn : Int) = (h : Int) by omega]
        · rw [show env1 P n tn g h (stI P n tn g h i) (13 + d * 3 + v) = _ from envF_s hd hv, eth, et, show ((tn + h : Nat) : Int) - (tn : Int) = (h : Int) by omega]
        refine n_slopes6 hP hS (hb1 _) hk1 (fun y2 hy2 h6 => ⟨4, ?_⟩)
        have y23 : y2.1 3 = y.1 3 := (hy2.1 3 (by decide)).trans (hy1.1 3 (by decide))
        have y25 : y2.1 5 = y.1 5 := (hy2.1 5 (by decide)).trans (hy1.1 5 (by decide))
        have next : ∀ (f2 v : Nat) (z : RT), f2 + v = 4 → v ≤ 3 → (∀ u, u < 3 → z.1 3 u = iz (stX g n u)) → (∀ u, u < 3 → z.1 5 u = iz (stK P n tn g u)) → (∀ u, u < 3 → z.1 6 u = iz (valC (env1 P n tn g h (stI P n tn g h i)) (cd P u))) → (∀ u, u < v → z.1 4 u = iz (stI P n tn g h (i + 1) u)) → lp_X7_takeStep_186 (nI tn) (nI h) K (fun v0 v1 v2 v3 => lp_X7_takeStep_158 (nI tn) (nI h) K f v0 v1 v2 v3) f2 (nI (rdS P (nI tn + nI h) h)) (nI i) (nI v) z s := by
          intro f2
          induction f2 with
          | zero => intro v z a b; omega
          | succ f2 ih2 =>
            intro v z a2 b2 z3 z5 z6 z4
            refine ⟨fun q x12 h12 => ?_, fun q => ?_⟩
            · have := (nI_leI (a := 3) (by decide) (by omega)).mp q
              have e12 : x12 = nI (i + 1) := h12.trans (nI_1 i)
              subst e12
              exact ih (i + 1) z (by omega) (by omega) z3 z5 (fun u hu => z4 u (by omega))
            · have hv : v < 3 := by
                rcases Nat.lt_or_ge v 3 with w | w
                · exact w
                · exact absurd (nI_le w (by omega)) q
              refine n_pick (by decide) ?_
              rw [pk_n (by decide) hv, z5 v hv]
              refine n_pick (by decide) ?_
              rw [pk_n (by decide) hv, z6 v hv]
              intro x15 h15
              subst h15
              refine n_pick (by decide) ?_
              rw [pk_n (by decide) hv, z3 v hv]
              refine n_hold (n_put (by decide) ?_)
              have hl := (tx_okc (hb1 (stI P n tn g h i)) (hP.1 v hv)).2.2
              rw [pt_n (by decide) hv, guess_mul (h := h) (by rw [i2l]; exact iz_r (hbX v hv)) (by rw [i2l]; exact iz_r2 (hbK v hv)) (by rw [i2l]; exact iz_r2 hl) (hbX v hv) (hbK v hv) hl h5]
              intro s19 h19 x20 h20
              have e20 : x20 = nI (v + 1) := h20.trans (nI_1 v)
              subst h19; subst e20
              refine ih2 (v + 1) _ (by omega) (by omega) (fun u hu => z3 u hu) (fun u hu => z5 u hu) (fun u hu => z6 u hu) (fun u hu => ?_)
              show upd (z.1 4) v _ u = _
              by_cases e : u = v
              · subst e; rw [pk_us]; rfl
              · rw [pk_un e]; exact z4 u (by omega)
        exact next 4 0 y2 rfl (by decide) (fun u hu => by rw [y23]; exact y3 u hu) (fun u hu => by rw [y25]; exact y5 u hu) h6 (fun u hu => by omega)
  -- the first guess
  have firsts : ∀ (f v : Nat) (y : RT), f + v = 4 → v ≤ 3 → (∀ u, u < 3 → y.1 3 u = iz (stX g n u)) → (∀ u, u < 3 → y.1 5 u = iz (stK P n tn g u)) → (∀ u, u < v → y.1 4 u = iz (stG0 P n tn g h u)) → lp_X7_takeStep_70 (nI tn) (nI h) K f (nI v) y s := by
    intro f
    induction f with
    | zero => intro v y a b; omega
    | succ f ih =>
      intro v y a b y3 y5 y4
      refine ⟨fun z => ?_, fun z => ?_⟩
      · have := (nI_leI (a := 3) (by decide) (by omega)).mp z
        have go : ∀ r : Nat, r = rdS P (nI tn + nI h) h → ∃ m : Nat, lp_X7_takeStep_158 (nI tn) (nI h) K m (nI r) 0 y s := by
          intro r hr
          refine ⟨rdS P (nI tn + nI h) h + 2, ?_⟩
          rw [hr]
          exact rounds _ 0 y (by omega) (by omega) y3 y5 (fun v hv => y4 v (by omega))
        refine n_short hP hS (by omega) (by omega) h5 (fun q => ⟨fun w => absurd w (by decide), fun _ => n_pick (by decide) ?_⟩) (fun q => ⟨fun _ => ?_, fun w => absurd rfl w⟩)
        · rw [show (1 : Int32) = nI 1 from rfl, pk_n (by decide) (by decide), hS.2.2.2.2.2.1]
          exact go _ (by unfold rdS; rw [if_pos q])
        · exact go 0 (by unfold rdS; rw [if_neg q])
      · have hv : v < 3 := by
          rcases Nat.lt_or_ge v 3 with w | w
          · exact w
          · exact absurd (nI_le w (by omega)) z
        refine n_pick (by decide) ?_
        rw [pk_n (by decide) hv, y5 v hv]
        intro x23 h23
        subst h23
        refine n_pick (by decide) ?_
        rw [pk_n (by decide) hv, y3 v hv]
        refine n_hold (n_put (by decide) ?_)
        rw [pt_n (by decide) hv, guess_mul0 (h := h) (by rw [i2l]; exact iz_r (hbX v hv)) (by rw [i2l]; exact iz_r2 (hbK v hv)) (hbX v hv) (hbK v hv) h5]
        intro s27 h27 x28 h28
        have e28 : x28 = nI (v + 1) := h28.trans (nI_1 v)
        subst h27; subst e28
        refine ih (v + 1) _ (by omega) (by omega) (fun u hu => y3 u hu) (fun u hu => y5 u hu) (fun u hu => ?_)
        show upd (y.1 4) v _ u = _
        by_cases e : u = v
        · subst e; rw [pk_us]; rfl
        · rw [pk_un e]; exact y4 u (by omega)
  -- the beginning
  have begins : ∀ (f v : Nat) (y : RT), f + v = 4 → v ≤ 3 → (∀ u, u < v → y.1 3 u = iz (stX g n u) ∧ y.1 4 u = iz (stX g n u)) → lp_X7_takeStep_3 (nI tn) (nI h) K f (nI v) y s := by
    intro f
    induction f with
    | zero => intro v y a b; omega
    | succ f ih =>
      intro v y a b y34
      refine ⟨fun z => ?_, fun z => ?_⟩
      · have := (nI_leI (a := 3) (by decide) (by omega)).mp z
        refine n_gather (t := nI tn) (t0 := nI tn) (X := stX g n) (G := stX g n) (env := env0 P n tn g) hP hS hX hG (by omega) (by omega) (by omega) (by omega) (fun v hv => ⟨(y34 v (by omega)).2, bd1_I (hbX v hv)⟩) (fun v hv => ⟨(y34 v (by omega)).1, bd1_I (hbX v hv)⟩) (fun v hv => ?_) envF_t (fun d v hd hv => ?_) (fun d v hd hv => ?_) (fun y1 hy1 hk1 => ?_)
        · rw [show env0 P n tn g v = _ from envF_v hv]
          exact tv_end hP hG h0 ht (by omega) hv
        · rw [show env0 P n tn g (4 + d * 3 + v) = _ from envF_p hd hv]
          exact (sub_self_lag hP hd (by omega)).symm
        · rw [show env0 P n tn g (13 + d * 3 + v) = _ from envF_s hd hv]
          exact (sub_self_slp hP hd (by omega)).symm
        refine n_slopes5 hP hS hb0 hk1 (fun y2 hy2 q5 => ⟨4, ?_⟩)
        refine firsts 4 0 y2 rfl (by decide) (fun u hu => ?_) q5 (fun u hu => by omega)
        rw [hy2.1 3 (by decide), hy1.1 3 (by decide)]
        exact (y34 u (by omega)).1
      · have hv : v < 3 := by
          rcases Nat.lt_or_ge v 3 with w | w
          · exact w
          · exact absurd (nI_le w (by omega)) z
        unfold wp_X4_endValue
        rw [hX.1, ix8, ix81]
        refine n_pick (by decide) (n_put (by decide) ?_)
        rw [pk_n (by decide) (by omega), pt_n (by decide) hv, hX.2 _ (by omega), hxr v hv]
        intro s31 h31
        refine n_pick (by decide) (n_put (by decide) ?_)
        have e31 : s31.1 3 v = iz (stX g n v) := by rw [h31]; exact pk_us
        rw [pk_n (by decide) hv, pt_n (by decide) hv, e31]
        intro s34 h34 x35 h35
        have e35 : x35 = nI (v + 1) := h35.trans (nI_1 v)
        subst e35
        refine ih (v + 1) s34 (by omega) (by omega) (fun u hu => ?_)
        rw [h34, h31]
        show upd (y.1 3) v _ u = _ ∧ upd (y.1 4) v _ u = _
        by_cases e : u = v
        · subst e; exact ⟨pk_us, pk_us⟩
        · rw [pk_un e, pk_un e]; exact y34 u (by omega)
  exact ⟨4, begins 4 0 p rfl (by decide) (fun u hu => by omega)⟩
