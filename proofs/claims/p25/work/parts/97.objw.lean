/-! an object on the heap, as its caller sees it -/
def OW (w : HW) (x : Nat) (A : AB) : Prop := AOK A ∧ ∃ (t c r p : RT) (ct : Int32) (kp : Nat → Option Nat) (kr : Nat → RT) (sl : Nat → Option Nat) (sr : Nat → RT), XW w x t c r p ct kp kr sl sr ∧ HLD A t c r ct kp kr sl sr
theorem OWx {w : HW} {x : Nat} {A : AB} (h : OW w x A) : w.1 x = some (ob9 x (trv w x)) := by
  obtain ⟨-, t, c, r, p, ct, kp, kr, sl, sr, hX, -⟩ := h
  exact hX.1
theorem sw_lag {G : GX} {l : Launch} {d x : Nat} {w : HW} {A : AB} {a0 : Int32} {a1 : Int32} (hd : 2 ≤ d) (hO : OW w x A) : Sp G l m_X9_lag d 0 0 [.ref x, .int a0, .int a1] w (fun r9 w2 => r9 = some (.int (qr_lag A a0 a1)) ∧ OW w2 x A) := by
  obtain ⟨hA, t, c, r, p, ct, kp, kr, sl, sr, hX, hH⟩ := hO
  refine (sp_X9_lag (K := fun v => v = qr_lag A a0 a1) (by omega) hX (cx_lag hA hH rfl)).mono (fun r9 w2 hr => ?_)
  obtain ⟨r1, rfl, hX, -, rfl⟩ := hr
  exact ⟨rfl, hA, _, _, _, _, _, _, _, _, _, hX, hH⟩
theorem sw_breakAt {G : GX} {l : Launch} {d x : Nat} {w : HW} {A : AB} {a0 : Int32} {a1 : Int32} (hd : 1 ≤ d) (hO : OW w x A) : Sp G l m_X9_breakAt d 0 0 [.ref x, .int a0, .int a1] w (fun r9 w2 => r9 = some (.int (qr_brk A a0 a1)) ∧ OW w2 x A) := by
  obtain ⟨hA, t, c, r, p, ct, kp, kr, sl, sr, hX, hH⟩ := hO
  refine (sp_X9_breakAt (K := fun v => v = qr_brk A a0 a1) (by omega) hX (cx_breakAt hA hH rfl)).mono (fun r9 w2 hr => ?_)
  obtain ⟨r1, rfl, hX, -, rfl⟩ := hr
  exact ⟨rfl, hA, _, _, _, _, _, _, _, _, _, hX, hH⟩
theorem sw_value {G : GX} {l : Launch} {d x : Nat} {w : HW} {A : AB} {a0 : Int32} {a1 : Int32} (hd : 4 ≤ d) (hO : OW w x A) : Sp G l m_X9_value d 0 0 [.ref x, .int a0, .int a1] w (fun r9 w2 => r9 = some (.int (qr_value A a0 a1)) ∧ OW w2 x A) := by
  obtain ⟨hA, t, c, r, p, ct, kp, kr, sl, sr, hX, hH⟩ := hO
  refine (sp_X9_value (K := fun v => v = qr_value A a0 a1) (by omega) hX (cx_value hA hH rfl)).mono (fun r9 w2 hr => ?_)
  obtain ⟨r1, rfl, hX, -, rfl⟩ := hr
  exact ⟨rfl, hA, _, _, _, _, _, _, _, _, _, hX, hH⟩
theorem sw_slope {G : GX} {l : Launch} {d x : Nat} {w : HW} {A : AB} {a0 : Int32} {a1 : Int32} (hd : 4 ≤ d) (hO : OW w x A) : Sp G l m_X9_slope d 0 0 [.ref x, .int a0, .int a1] w (fun r9 w2 => r9 = some (.int (qr_slope A a0 a1)) ∧ OW w2 x A) := by
  obtain ⟨hA, t, c, r, p, ct, kp, kr, sl, sr, hX, hH⟩ := hO
  refine (sp_X9_slope (K := fun v => v = qr_slope A a0 a1) (by omega) hX (cx_slope hA hH rfl)).mono (fun r9 w2 hr => ?_)
  obtain ⟨r1, rfl, hX, -, rfl⟩ := hr
  exact ⟨rfl, hA, _, _, _, _, _, _, _, _, _, hX, hH⟩
theorem sw_rightAt {G : GX} {l : Launch} {d x : Nat} {w : HW} {A : AB} {a0 : Int32} {a1 : Int32} (hd : 6 ≤ d) (hO : OW w x A) : Sp G l m_X9_rightAt d 0 0 [.ref x, .int a0, .int a1] w (fun r9 w2 => r9 = some (.int (qr_right A a0 a1)) ∧ OW w2 x A) := by
  obtain ⟨hA, t, c, r, p, ct, kp, kr, sl, sr, hX, hH⟩ := hO
  refine (sp_X9_rightAt (K := fun v z3 => v = qr_right A a0 a1) (by omega) hX (cx_rightAt hA hH (fun p2 => rfl))).mono (fun r9 w2 hr => ?_)
  obtain ⟨r1, z3, rfl, hX, -, rfl⟩ := hr
  exact ⟨rfl, hA, _, _, _, _, _, _, _, _, _, hX, hH⟩
theorem sw_step {G : GX} {l : Launch} {d x : Nat} {w : HW} {A : AB} {a0 : Int32} {a1 : Int32} (hd : 2 ≤ d) (hO : OW w x A) : Sp G l m_X9_step d 0 0 [.ref x, .int a0, .int a1] w (fun r9 w2 => r9 = some (.int (qr_step A a0 a1)) ∧ OW w2 x A) := by
  obtain ⟨hA, t, c, r, p, ct, kp, kr, sl, sr, hX, hH⟩ := hO
  refine (sp_X9_step (K := fun v => v = qr_step A a0 a1) (by omega) hX (cx_step hA hH rfl)).mono (fun r9 w2 hr => ?_)
  obtain ⟨r1, rfl, hX, -, rfl⟩ := hr
  exact ⟨rfl, hA, _, _, _, _, _, _, _, _, _, hX, hH⟩
theorem sw_crossing {G : GX} {l : Launch} {d x : Nat} {w : HW} {A : AB} {a0 : Int32} {a1 : Int32} {a2 : Int32} (hd : 3 ≤ d) (hO : OW w x A) : Sp G l m_X9_crossing d 0 0 [.ref x, .int a0, .int a1, .int a2] w (fun r9 w2 => r9 = some (.int (qr_cross A a0 a1 a2)) ∧ OW w2 x A) := by
  obtain ⟨hA, t, c, r, p, ct, kp, kr, sl, sr, hX, hH⟩ := hO
  refine (sp_X9_crossing (K := fun v => v = qr_cross A a0 a1 a2) (by omega) hX (cx_crossing hA hH rfl)).mono (fun r9 w2 hr => ?_)
  obtain ⟨r1, rfl, hX, -, rfl⟩ := hr
  exact ⟨rfl, hA, _, _, _, _, _, _, _, _, _, hX, hH⟩
theorem sw_greatest {G : GX} {l : Launch} {d x : Nat} {w : HW} {A : AB} {a0 : Int32} {a1 : Int32} {a2 : Int32} {a3 : Int32} (hd : 3 ≤ d) (hO : OW w x A) : Sp G l m_X9_greatest d 0 0 [.ref x, .int a0, .int a1, .int a2, .int a3] w (fun r9 w2 => r9 = some (.int (qr_great A a0 a1 a2 a3)) ∧ OW w2 x A) := by
  obtain ⟨hA, t, c, r, p, ct, kp, kr, sl, sr, hX, hH⟩ := hO
  refine (sp_X9_greatest (K := fun v => v = qr_great A a0 a1 a2 a3) (by omega) hX (cx_greatest hA hH rfl)).mono (fun r9 w2 hr => ?_)
  obtain ⟨r1, rfl, hX, -, rfl⟩ := hr
  exact ⟨rfl, hA, _, _, _, _, _, _, _, _, _, hX, hH⟩
theorem sw_count {G : GX} {l : Launch} {d x : Nat} {w : HW} {A : AB} {a0 : Int32} (h6 : ¬ a0 = 6) (hd : 3 ≤ d) (hO : OW w x A) : Sp G l m_X9_count d 0 0 [.ref x, .int a0] w (fun r9 w2 => r9 = some (.int (qr_count A a0)) ∧ OW w2 x A) := by
  obtain ⟨hA, t, c, r, p, ct, kp, kr, sl, sr, hX, hH⟩ := hO
  refine (sp_X9_count (K := fun v => v = qr_count A a0) (by omega) hX (cx_count hA hH h6 rfl)).mono (fun r9 w2 hr => ?_)
  obtain ⟨r1, rfl, hX, -, rfl⟩ := hr
  exact ⟨rfl, hA, _, _, _, _, _, _, _, _, _, hX, hH⟩
theorem sw_differs {G : GX} {l : Launch} {d x : Nat} {w : HW} {A : AB} {a0 : Int32} (hd : 7 ≤ d) (hO : OW w x A) : Sp G l m_X9_differs d 19 8122 [.ref x, .int a0] w (fun r9 w2 => r9 = some (.int (qr_diff A a0)) ∧ OW w2 x A) := by
  obtain ⟨hA, t, c, r, p, ct, kp, kr, sl, sr, hX, hH⟩ := hO
  refine (sp_X9_differs (K := fun v z2 z3 => v = qr_diff A a0 ∧ Z0 z2) (by omega) hX (cx_differs hA hH (fun r2 p2 hz => ⟨rfl, hz⟩))).mono (fun r9 w2 hr => ?_)
  obtain ⟨r1, z2, z3, rfl, hX, -, ⟨rfl, hz⟩⟩ := hr
  exact ⟨rfl, hA, _, _, _, _, _, _, _, _, _, hX, ⟨hH.1, hH.2.1, hH.2.2.1, hH.2.2.2.1, hH.2.2.2.2.1, hz⟩⟩
theorem sw_type {G : GX} {l : Launch} {d x : Nat} {w : HW} {A : AB} {a0 : Int32} (hd : 2 ≤ d) (hO : OW w x A) : Sp G l m_X9_type d 0 0 [.ref x, .int a0] w (fun r9 w2 => ∃ v : Int32, r9 = some (.int v) ∧ OW w2 x A) := by
  obtain ⟨hA, t, c, r, p, ct, kp, kr, sl, sr, hX, hH⟩ := hO
  refine (sp_X9_type (K := fun v z0 => HLD A z0 c r ct kp kr sl sr) (by omega) hX (cx_type hH (fun _ _ h => h))).mono (fun r9 w2 hr => ?_)
  obtain ⟨r1, z0, rfl, hX, -, hH⟩ := hr
  exact ⟨_, rfl, hA, _, _, _, _, _, _, _, _, _, hX, hH⟩
theorem sw_wipe {G : GX} {l : Launch} {d x : Nat} {w : HW} {A : AB} (hd : 1 ≤ d) (hO : OW w x A) : Sp G l m_X9_wipe d 0 0 [.ref x] w (fun r9 w2 => ∃ v : Int32, r9 = some (.int v) ∧ OW w2 x A) := by
  obtain ⟨hA, t, c, r, p, ct, kp, kr, sl, sr, hX, hH⟩ := hO
  refine (sp_X9_wipe (K := fun v z0 => HLD A z0 c r ct kp kr sl sr) (by omega) hX (cx_wipe hH (fun _ _ h => h))).mono (fun r9 w2 hr => ?_)
  obtain ⟨r1, z0, rfl, hX, -, hH⟩ := hr
  exact ⟨_, rfl, hA, _, _, _, _, _, _, _, _, _, hX, hH⟩
theorem sw_fault {G : GX} {l : Launch} {d x : Nat} {w : HW} {A : AB} (hd : 69 ≤ d) (hO : OW w x A) : Sp G l m_X9_fault d 0 0 [.ref x] w (fun r9 w2 => ∃ v : Int32, r9 = some (.int v) ∧ OW w2 x A) := by
  obtain ⟨hA, t, c, r, p, ct, kp, kr, sl, sr, hX, hH⟩ := hO
  refine (sp_X9_fault (K := fun v z0 => HLD A z0 c r ct kp kr sl sr) (by omega) hX (cx_fault hH (fun _ _ h => h))).mono (fun r9 w2 hr => ?_)
  obtain ⟨r1, z0, rfl, hX, -, hH⟩ := hr
  exact ⟨_, rfl, hA, _, _, _, _, _, _, _, _, _, hX, hH⟩
theorem sw_right {G : GX} {l : Launch} {d x : Nat} {w : HW} {A : AB} {a0 : Int32} (hd : 69 ≤ d) (hO : OW w x A) : Sp G l m_X9_right d 19 8122 [.ref x, .int a0] w (fun r9 w2 => ∃ (v : Int32) (A2 : AB), r9 = some (.int v) ∧ OW w2 x A2 ∧ RelR A v A2) := by
  obtain ⟨hA, t, c, r, p, ct, kp, kr, sl, sr, hX, hH⟩ := hO
  refine (sp_X9_right (K := fun v z0 z1 z4 z5 z6 => ∃ A2, RelR A v A2 ∧ AOK A2 ∧ HLD A2 z0 z1 r z4 z5 z6 sl sr) (by omega) hX (cx_right hA hH (fun v A2 _ _ _ _ _ h1 h2 h3 => ⟨A2, h1, h2, h3⟩))).mono (fun r9 w2 hr => ?_)
  obtain ⟨r1, z0, z1, z4, z5, z6, rfl, hX, -, A2, hR, hA2, hH2⟩ := hr
  exact ⟨_, A2, rfl, ⟨hA2, _, _, _, _, _, _, _, _, _, hX, hH2⟩, hR⟩
theorem sw_delay {G : GX} {l : Launch} {d x : Nat} {w : HW} {A : AB} {a0 : Int32} {a1 : Int32} {a2 : Int32} (hd : 6 ≤ d) (hO : OW w x A) : Sp G l m_X9_delay d 19 8122 [.ref x, .int a0, .int a1, .int a2] w (fun r9 w2 => ∃ (v : Int32) (A2 : AB), r9 = some (.int v) ∧ OW w2 x A2 ∧ RelC A v A2) := by
  obtain ⟨hA, t, c, r, p, ct, kp, kr, sl, sr, hX, hH⟩ := hO
  refine (sp_X9_delay (K := fun v z1 z4 z5 z6 => ∃ A2, RelC A v A2 ∧ AOK A2 ∧ HLD A2 t z1 r z4 z5 z6 sl sr) (by omega) hX (cx_delay hA hH (fun v A2 _ _ _ _ h1 h2 h3 => ⟨A2, h1, h2, h3⟩))).mono (fun r9 w2 hr => ?_)
  obtain ⟨r1, z1, z4, z5, z6, rfl, hX, -, A2, hR, hA2, hH2⟩ := hr
  exact ⟨_, A2, rfl, ⟨hA2, _, _, _, _, _, _, _, _, _, hX, hH2⟩, hR⟩
theorem sw_point {G : GX} {l : Launch} {d x : Nat} {w : HW} {A : AB} {a0 : Int32} {a1 : Int32} {a2 : Int32} (hd : 6 ≤ d) (hO : OW w x A) : Sp G l m_X9_point d 19 8122 [.ref x, .int a0, .int a1, .int a2] w (fun r9 w2 => ∃ (v : Int32) (A2 : AB), r9 = some (.int v) ∧ OW w2 x A2 ∧ RelC A v A2) := by
  obtain ⟨hA, t, c, r, p, ct, kp, kr, sl, sr, hX, hH⟩ := hO
  refine (sp_X9_point (K := fun v z1 z4 z5 z6 => ∃ A2, RelC A v A2 ∧ AOK A2 ∧ HLD A2 t z1 r z4 z5 z6 sl sr) (by omega) hX (cx_point hA hH (fun v A2 _ _ _ _ h1 h2 h3 => ⟨A2, h1, h2, h3⟩))).mono (fun r9 w2 hr => ?_)
  obtain ⟨r1, z1, z4, z5, z6, rfl, hX, -, A2, hR, hA2, hH2⟩ := hr
  exact ⟨_, A2, rfl, ⟨hA2, _, _, _, _, _, _, _, _, _, hX, hH2⟩, hR⟩
theorem sw_clear {G : GX} {l : Launch} {d x : Nat} {w : HW} {A : AB} {a0 : Int32} (hd : 6 ≤ d) (hO : OW w x A) : Sp G l m_X9_clear d 19 8122 [.ref x, .int a0] w (fun r9 w2 => ∃ (v : Int32) (A2 : AB), r9 = some (.int v) ∧ OW w2 x A2 ∧ RelC A v A2) := by
  obtain ⟨hA, t, c, r, p, ct, kp, kr, sl, sr, hX, hH⟩ := hO
  refine (sp_X9_clear (K := fun v z1 z4 z5 z6 => ∃ A2, RelC A v A2 ∧ AOK A2 ∧ HLD A2 t z1 r z4 z5 z6 sl sr) (by omega) hX (cx_clear hA hH (fun v A2 _ _ _ _ h1 h2 h3 => ⟨A2, h1, h2, h3⟩))).mono (fun r9 w2 hr => ?_)
  obtain ⟨r1, z1, z4, z5, z6, rfl, hX, -, A2, hR, hA2, hH2⟩ := hr
  exact ⟨_, A2, rfl, ⟨hA2, _, _, _, _, _, _, _, _, _, hX, hH2⟩, hR⟩
theorem sw_set {G : GX} {l : Launch} {d x : Nat} {w : HW} {A : AB} {a0 : Int32} {a1 : Int32} (hd : 6 ≤ d) (hO : OW w x A) : Sp G l m_X9_set d 19 8122 [.ref x, .int a0, .int a1] w (fun r9 w2 => ∃ (v : Int32) (A2 : AB), r9 = some (.int v) ∧ OW w2 x A2 ∧ RelC A v A2) := by
  obtain ⟨hA, t, c, r, p, ct, kp, kr, sl, sr, hX, hH⟩ := hO
  refine (sp_X9_set (K := fun v z1 z4 z5 z6 => ∃ A2, RelC A v A2 ∧ AOK A2 ∧ HLD A2 t z1 r z4 z5 z6 sl sr) (by omega) hX (cx_set hA hH (fun v A2 _ _ _ _ h1 h2 h3 => ⟨A2, h1, h2, h3⟩))).mono (fun r9 w2 hr => ?_)
  obtain ⟨r1, z1, z4, z5, z6, rfl, hX, -, A2, hR, hA2, hH2⟩ := hr
  exact ⟨_, A2, rfl, ⟨hA2, _, _, _, _, _, _, _, _, _, hX, hH2⟩, hR⟩
theorem sw_solve {G : GX} {l : Launch} {d x : Nat} {w : HW} {A : AB} {a0 : Int32} (hj : aj A < 512) (hd : 7 ≤ d) (hO : OW w x A) : Sp G l m_X9_solve d 19 8122 [.ref x, .int a0] w (fun r9 w2 => ∃ (v : Int32) (A2 : AB), r9 = some (.int v) ∧ OW w2 x A2 ∧ RelC A v A2) := by
  obtain ⟨hA, t, c, r, p, ct, kp, kr, sl, sr, hX, hH⟩ := hO
  refine (sp_X9_solve (K := fun v z1 z3 z4 z5 z6 => ∃ A2, RelC A v A2 ∧ AOK A2 ∧ HLD A2 t z1 r z4 z5 z6 sl sr) (by omega) hX (cx_solve hA hj hH (fun v A2 _ _ _ _ _ h1 h2 h3 => ⟨A2, h1, h2, h3⟩))).mono (fun r9 w2 hr => ?_)
  obtain ⟨r1, z1, z3, z4, z5, z6, rfl, hX, -, A2, hR, hA2, hH2⟩ := hr
  exact ⟨_, A2, rfl, ⟨hA2, _, _, _, _, _, _, _, _, _, hX, hH2⟩, hR⟩
theorem sw_undo {G : GX} {l : Launch} {d x : Nat} {w : HW} {A : AB} (hd : 6 ≤ d) (hO : OW w x A) : Sp G l m_X9_undo d 19 8122 [.ref x] w (fun r9 w2 => ∃ (v : Int32) (A2 : AB), r9 = some (.int v) ∧ OW w2 x A2 ∧ RelU A v A2) := by
  obtain ⟨hA, t, c, r, p, ct, kp, kr, sl, sr, hX, hH⟩ := hO
  refine (sp_X9_undo (K := fun v z1 z4 => ∃ A2, RelU A v A2 ∧ AOK A2 ∧ HLD A2 t z1 r z4 kp kr sl sr) (by omega) hX (cx_undo hA hH (fun v A2 _ _ h1 h2 h3 => ⟨A2, h1, h2, h3⟩))).mono (fun r9 w2 hr => ?_)
  obtain ⟨r1, z1, z4, rfl, hX, -, A2, hR, hA2, hH2⟩ := hr
  exact ⟨_, A2, rfl, ⟨hA2, _, _, _, _, _, _, _, _, _, hX, hH2⟩, hR⟩
theorem sw_save {G : GX} {l : Launch} {d x : Nat} {w : HW} {A : AB} {a0 : Int32} (hd : 5 ≤ d) (hO : OW w x A) : Sp G l m_X9_save d 19 8122 [.ref x, .int a0] w (fun r9 w2 => ∃ (v : Int32) (A2 : AB), r9 = some (.int v) ∧ OW w2 x A2 ∧ RelS A v A2) := by
  obtain ⟨hA, t, c, r, p, ct, kp, kr, sl, sr, hX, hH⟩ := hO
  refine (sp_X9_save (K := fun v z7 z8 => ∃ A2, RelS A v A2 ∧ AOK A2 ∧ HLD A2 t c r ct kp kr z7 z8) (by omega) hX (cx_save hA hH (fun v A2 _ _ h1 h2 h3 => ⟨A2, h1, h2, h3⟩))).mono (fun r9 w2 hr => ?_)
  obtain ⟨r1, z7, z8, rfl, hX, -, A2, hR, hA2, hH2⟩ := hr
  exact ⟨_, A2, rfl, ⟨hA2, _, _, _, _, _, _, _, _, _, hX, hH2⟩, hR⟩
theorem sw_restore {G : GX} {l : Launch} {d x : Nat} {w : HW} {A : AB} {a0 : Int32} (hd : 6 ≤ d) (hO : OW w x A) : Sp G l m_X9_restore d 19 8122 [.ref x, .int a0] w (fun r9 w2 => ∃ (v : Int32) (A2 : AB), r9 = some (.int v) ∧ OW w2 x A2 ∧ RelC A v A2) := by
  obtain ⟨hA, t, c, r, p, ct, kp, kr, sl, sr, hX, hH⟩ := hO
  refine (sp_X9_restore (K := fun v z1 z4 z5 z6 => ∃ A2, RelC A v A2 ∧ AOK A2 ∧ HLD A2 t z1 r z4 z5 z6 sl sr) (by omega) hX (cx_restore hA hH (fun v A2 _ _ _ _ h1 h2 h3 => ⟨A2, h1, h2, h3⟩))).mono (fun r9 w2 hr => ?_)
  obtain ⟨r1, z1, z4, z5, z6, rfl, hX, -, A2, hR, hA2, hH2⟩ := hr
  exact ⟨_, A2, rfl, ⟨hA2, _, _, _, _, _, _, _, _, _, hX, hH2⟩, hR⟩
