/-! right sides at a time -/
theorem n_rightSide {p s : RT} {P : PB} {n t v : Nat} {g : Nat → Int32} {K : Int32 → RT → Prop} (hP : POKp P) (hS : SXp s P) (hX : PX s n g) (hG : POK n g) (h8 : t ≤ 8000) (ht : (t : Int) ≤ (g (n * 8)).toInt) (hv : v < 3) (h : ∀ y, K (iz (stK P n t g v)) y) : wp_X7_rightSide p s (nI v) (nI t) K := by
  have et : (nI t).toInt = (t : Int) := nI_int (by omega)
  have hb0 := env0_bd (P := P) (n := n) (g := g) hP h8
  have tb := fun v (hv : v < 3) => tv_bd (n := n) (g := g) (u := nI t) hP hv
  refine n_stepTo hX hG ⟨4, ?_⟩
  have key : ∀ (f u : Nat) (y : RT), f + u = 4 → u ≤ 3 → (∀ w, w < u → y.1 4 w = iz (tvZ P n g w (nI t))) → lp_X7_rightSide_19 s (nI v) (nI t) K f (nI (stT n g (nI t).toInt)) (nI u) y := by
    intro f
    induction f with
    | zero => intro u y a b; omega
    | succ f ih =>
      intro u y a b y4
      refine ⟨fun z => ?_, fun z => ?_⟩
      · have := (nI_leI (a := 3) (by decide) (by omega)).mp z
        refine n_gather (t := nI t) (t0 := nI t) (X := fun v => (y.1 3 v).toInt) (G := fun v => tvZ P n g v (nI t)) (env := env0 P n t g) hP hS hX hG (by omega) (by omega) (by omega) (by omega) (fun v hv => ⟨y4 v (by omega), ?_⟩) (fun v hv => ⟨(iz_of _).symm, i_in _⟩) (fun v hv => envF_v hv) envF_t (fun d v hd hv => ?_) (fun d v hd hv => ?_) (fun y1 hy1 hk1 => ?_)
        · have := tb v hv
          exact ⟨by omega, by omega⟩
        · rw [show env0 P n t g (4 + d * 3 + v) = _ from envF_p hd hv]
          exact (sub_self_lag hP hd h8).symm
        · rw [show env0 P n t g (13 + d * 3 + v) = _ from envF_s hd hv]
          exact (sub_self_slp hP hd h8).symm
        exact n_workP hP hS hv hb0 hk1 (fun y2 _ => h y2)
      · have hu : u < 3 := by
          rcases Nat.lt_or_ge u 3 with w | w
          · exact w
          · exact absurd (nI_le w (by omega)) z
        refine n_valueIn hS.2.2.2.1 hP.2.2.1 hX hG hu (by omega) (n_put (by decide) ?_)
        rw [pt_n (by decide) hu]
        intro s8 h8' x9 h9
        have e9 : x9 = nI (u + 1) := h9.trans (nI_1 u)
        subst h8'; subst e9
        refine ih (u + 1) _ (by omega) (by omega) (fun w hw => ?_)
        show upd (y.1 4) u _ w = _
        by_cases e : w = u
        · subst e; exact pk_us
        · rw [pk_un e]; exact y4 w (by omega)
  exact key 4 0 p rfl (by decide) (fun w hw => by omega)
theorem PT_rightAt_ok : PT_rightAt Inv := by
  intro j t c r p ct kp kr sl sr m a0 a1 hj h
  have h' := Inv_s h
  obtain ⟨_, ⟨G, hG⟩, _, _, _, h19⟩ := h
  obtain ⟨g1, g2, g3, g4, g5⟩ := cur_end hG
  have hn := pth_n hG.1
  have gok := pth_ok hG.1
  have hP := hG.1.1
  have e0' : (0 : Int32).toInt = 0 := by decide
  have e8' : (8000 : Int32).toInt = 8000 := by decide
  have gt : ((pth G).2.2 ((pth G).1 * 8)).toInt = ((pth G).2.1 : Int) := by rw [g1]; exact nI_int (by omega)
  have hp : ∀ p2 : RT, Inv (j + 1) t c r p2 ct kp kr sl sr m := fun p2 => h'
  refine n_isVariable ⟨fun z => n_isThree ⟨fun _ => ⟨rfl, h'⟩, fun w => absurd z w⟩, fun z => n_isWithin ⟨fun y => ?_, fun y => n_isThree ⟨fun w => absurd w z, fun _ => n_within ⟨fun w => absurd y w, fun _ => ⟨rfl, h'⟩⟩⟩⟩⟩
  obtain ⟨v, hv, rfl⟩ := wi02 (b2_1.mp z)
  have hb := wi_eq.mp (b2_1.mp y)
  obtain ⟨f, hf, rfl⟩ := nI_of_int (x := a1) (by omega)
  rw [nI_int hf] at hb
  have ef : (nI f).toInt = (f : Int) := nI_int hf
  refine n_endTime hG.2.1.2.2 (by omega) g1 ⟨fun q => ?_, fun q => n_isThree ⟨fun w => absurd w z, fun _ => n_within ⟨fun _ => ?_, fun w => absurd w y⟩⟩⟩
  · have hfe := (nI_leI (by omega) (by omega)).mp q
    refine n_rightSide hP hG.2.1.1 hG.2.1.2.2 gok.1 (by omega) (by omega) hv (fun y2 => n_isThree ⟨fun w => absurd w z, fun _ => n_within ⟨fun _ => ?_, fun w => absurd w y⟩⟩)
    rw [g3]
    have tx := hP.1 v hv
    have hb0 := env0_bd (P := qP G) (n := (pth G).1) (g := (pth G).2.2) hP (show f ≤ 8000 by omega)
    refine ⟨fun _ => n_worksOut tx.1 (hG.2.2.1.1.1 v hv) hv hb0 (EnvM_told hP hG.2.2.1.1 hG.2.2.2.2 gok.1 h19 (by omega) (by omega)) tx.2.1 tx.2.2 (fun y3 hy3 => ⟨?_, Inv_I (p := y2) h' (SameI_V hy3)⟩), fun w => absurd q w⟩
    have bK := stK_bd (n := (pth G).1) (g := (pth G).2.2) hP hv (show f ≤ 8000 by omega)
    unfold bd2 at bK
    exact (lz_i ⟨by omega, by omega⟩).symm
  · rw [g3]
    exact ⟨fun w => absurd w q, fun _ => ⟨rfl, h'⟩⟩
