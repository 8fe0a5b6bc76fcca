/-! right sides at a time -/
theorem n_rightSide {p s : RT} {P : PB} {n t v : Nat} {g : Nat → Int32} {K : Int32 → RT → Prop} (hP : POKp P) (hS : SXp s P) (hX : PX s n g) (hG : POK n g) (h8 : t ≤ 8000) (ht : (t : Int) ≤ (g (n * 8)).toInt) (hv : v < 3) (h : ∀ y, K (iz (stK P n t g v)) y) : wp_X7_rightSide p s (nI v) (nI t) K := by
  have et : (nI t).toInt = (t : Int) := nI_int (by omega)
  have hb0 := env0_bd (P := P) (n := n) (g := g) hP h8
  have tb := fun v (hv : v < 3) => tv_bd (n := n) (g := g) (u := nI t) hP hv
  refine n_stepTo hX hG ⟨4, ?_⟩
  have key : ∀ (f u : Nat) (y : RT), f + u = 4 → u ≤ 3 → (∀ w, w < u → y.1 4 w = iz (tvZ P n g w (nI t))) → lp_X7_rightSide_19 s (nI v) (nI t) K f (nI (stT n g (nI t).toInt)) (nI u) y := by
    intro f
    induction f with
    | zero => intro u y a b; omega
    | succ f ih =>
      intro u y a b y4
      refine ⟨fun z => ?_, fun z => ?_⟩
      · have := (nI_leI (a := 3) (by decide) (by omega)).mp z
        refine n_gather (t := nI t) (t0 := nI t) (X := fun v => (y.1 3 v).toInt) (G := fun v => tvZ P n g v (nI t)) (env := env0 P n t g) hP hS hX hG (by omega) (by omega) (by omega) (by omega) (fun v hv => ⟨y4 v (by omega), ?_⟩) (fun v hv => ⟨(iz_of _).symm, i_in _⟩) (fun v hv => envF_v hv) envF_t (fun d v hd hv => ?_) (fun d v hd hv => ?_) (fun y1 hy1 hk1 => ?_)
        · have := tb v hv
          exact ⟨by omega, by omega⟩
        · rw [show env0 P n t g (4 + d * 3 + v) = _ from envF_p hd hv]
          exact (sub_self_lag hP hd h8).symm
        · rw [show env0 P n t g (13 + d * 3 + v) = _ from envF_s hd hv]
          exact (sub_self_slp hP hd h8).symm
        exact n_workP hP hS hv hb0 hk1 (fun y2 _ => h y2)
      · have hu : u < 3 := by
          rcases Nat.lt_or_ge u 3 with w | w
          · exact w
          · exact absurd (nI_le w (by omega)) z
        refine n_valueIn hS.2.2.2.1 hP.2.2.1 hX hG hu (by omega) (n_put (by decide) ?_)
        rw [pt_n (by decide) hu]
        intro s8 h8' x9 h9
        have e9 : x9 = nI (u + 1) := h9.trans (nI_1 u)
        subst h8'; subst e9
        refine ih (u + 1) _ (by omega) (by omega) (fun w hw => ?_)
        show upd (y.1 4) u _ w = _
        by_cases e : w = u
        · subst e; exact pk_us
        · rw [pk_un e]; exact y4 w (by omega)
  exact key 4 0 p rfl (by decide) (fun w hw => by omega)
