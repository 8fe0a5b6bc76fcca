def wp_X5_copyFrom (t : RT) (s : RT) (K : RT → Prop) : Prop := wp_X9_copyRow 240 (t.1 2) 240 (s.1 2) (240 : Int32) (fun (f1 : Nat → Int32) => ∀ s2 : RT, s2 = rI s 2 f1 → wp_X9_copyRow 3 (t.1 3) 3 (s2.1 3) (3 : Int32) (fun (f3 : Nat → Int32) => ∀ s4 : RT, s4 = rI s2 3 f3 → wp_X9_copyRow 3 (t.1 4) 3 (s4.1 4) (3 : Int32) (fun (f5 : Nat → Int32) => ∀ s6 : RT, s6 = rI s4 4 f5 → K s6)))
set_option maxHeartbeats 4000000 in
theorem sp_X5_copyFrom {G : GX} {l : Launch} {d : Nat} {w : HW} {a b : Nat} {t : RT} {s : RT} {K : RT → Prop} (hd : 2 ≤ d) (hx_0_1 : b + 19 ≤ a ∨ a + 19 ≤ b) (hQ : wp_X5_copyFrom t s K) : Sp G l m_X5_copyFrom d 0 0 [.ref (a + 1), .ref (b + 1)] (put (put w b 19 (shS b t)) a 19 (shS a s)) (fun r w2 => ∃ (z1 : RT), r = none ∧ w2 = put (put w b 19 (shS b t)) a 19 (shS a z1) ∧ K z1) := by
  refine Sp.ofX k_X5_copyFrom.1.1 (Nat.le_of_ble_eq_true rfl) ?_
  refine X.lv (lv2 := [(0, .ref (a + 1)), (1, .ref (b + 1))]) rfl ?_
  refine x_aload_n 1 d_X5_copyFrom_0 rfl rfl ?_
  refine x_ifnonnull (tgt := 5) d_X5_copyFrom_1 (by decide) ?_
  refine x_aload_n 1 d_X5_copyFrom_5 rfl rfl ?_
  refine x_getf 0 gf_X5_9 (put_out (by omega) gS_1) rfl d_X5_copyFrom_6 ?_
  refine x_aload_n 0 d_X5_copyFrom_9 rfl rfl ?_
  refine x_getf 0 gf_X5_9 gS_1 rfl d_X5_copyFrom_10 ?_
  refine x_sipush (v := (240 : Int32)) d_X5_copyFrom_13 (by decide) ?_
  refine x_invSN (rest := []) (d' := d - 1) (mc' := 0) (ms' := 0) [.ref (b + 2), .ref (a + 2), .int (240 : Int32)] "LagSolver" k_X9_copyRow lk_X5_66 rfl rfl (Nat.le_of_ble_eq_true rfl) (by omega) (Nat.le_refl _) (Nat.le_refl _) d_X5_copyFrom_16 ((spa_X9_copyRow (d := d - 1) (by omega) gS_2 (put_out (by omega) gS_2) (by omega) hQ).mono (fun r w2 hr => ?_))
  obtain ⟨f1, rfl, rfl, hQ⟩ := hr
  obtain ⟨s2, e_s2⟩ : ∃ z : RT, z = rI s 2 f1 := ⟨_, rfl⟩
  have hQ := hQ s2 e_s2
  refine X.world (w2 := put (put w b 19 (shS b t)) a 19 (shS a s2)) (by rw [e_s2]; exact sS_2) ?_
  refine x_aload_n 1 d_X5_copyFrom_19 rfl rfl ?_
  refine x_getf 1 gf_X5_15 (put_out (by omega) gS_1) rfl d_X5_copyFrom_20 ?_
  refine x_aload_n 0 d_X5_copyFrom_23 rfl rfl ?_
  refine x_getf 1 gf_X5_15 gS_1 rfl d_X5_copyFrom_24 ?_
  refine x_iconst (v := (3 : Int32)) d_X5_copyFrom_27 (by decide) ?_
  refine x_invSN (rest := []) (d' := d - 1) (mc' := 0) (ms' := 0) [.ref (b + 3), .ref (a + 3), .int (3 : Int32)] "LagSolver" k_X9_copyRow lk_X5_66 rfl rfl (Nat.le_of_ble_eq_true rfl) (by omega) (Nat.le_refl _) (Nat.le_refl _) d_X5_copyFrom_28 ((spa_X9_copyRow (d := d - 1) (by omega) gS_3 (put_out (by omega) gS_3) (by omega) hQ).mono (fun r w2 hr => ?_))
  obtain ⟨f3, rfl, rfl, hQ⟩ := hr
  obtain ⟨s4, e_s4⟩ : ∃ z : RT, z = rI s2 3 f3 := ⟨_, rfl⟩
  have hQ := hQ s4 e_s4
  refine X.world (w2 := put (put w b 19 (shS b t)) a 19 (shS a s4)) (by rw [e_s4]; exact sS_3) ?_
  refine x_aload_n 1 d_X5_copyFrom_31 rfl rfl ?_
  refine x_getf 2 gf_X5_18 (put_out (by omega) gS_1) rfl d_X5_copyFrom_32 ?_
  refine x_aload_n 0 d_X5_copyFrom_35 rfl rfl ?_
  refine x_getf 2 gf_X5_18 gS_1 rfl d_X5_copyFrom_36 ?_
  refine x_iconst (v := (3 : Int32)) d_X5_copyFrom_39 (by decide) ?_
  refine x_invSN (rest := []) (d' := d - 1) (mc' := 0) (ms' := 0) [.ref (b + 4), .ref (a + 4), .int (3 : Int32)] "LagSolver" k_X9_copyRow lk_X5_66 rfl rfl (Nat.le_of_ble_eq_true rfl) (by omega) (Nat.le_refl _) (Nat.le_refl _) d_X5_copyFrom_40 ((spa_X9_copyRow (d := d - 1) (by omega) gS_4 (put_out (by omega) gS_4) (by omega) hQ).mono (fun r w2 hr => ?_))
  obtain ⟨f5, rfl, rfl, hQ⟩ := hr
  obtain ⟨s6, e_s6⟩ : ∃ z : RT, z = rI s4 4 f5 := ⟨_, rfl⟩
  have hQ := hQ s6 e_s6
  refine X.world (w2 := put (put w b 19 (shS b t)) a 19 (shS a s6)) (by rw [e_s6]; exact sS_4) ?_
  exact x_vret (retV d_X5_copyFrom_43 rfl) ⟨_, rfl, rfl, hQ⟩
def wp_X3_copyFrom (t : RT) (s : RT) (K : RT → Prop) : Prop := wp_X9_copyRow 3 (t.1 6) 3 (s.1 6) (3 : Int32) (fun (f1 : Nat → Int32) => ∀ s2 : RT, s2 = rI s 6 f1 → wp_X9_copyRow 3 (t.1 7) 3 (s2.1 7) (3 : Int32) (fun (f3 : Nat → Int32) => ∀ s4 : RT, s4 = rI s2 7 f3 → K s4))
set_option maxHeartbeats 4000000 in
theorem sp_X3_copyFrom {G : GX} {l : Launch} {d : Nat} {w : HW} {a b : Nat} {t : RT} {s : RT} {K : RT → Prop} (hd : 2 ≤ d) (hx_0_1 : b + 19 ≤ a ∨ a + 19 ≤ b) (hQ : wp_X3_copyFrom t s K) : Sp G l m_X3_copyFrom d 0 0 [.ref (a + 5), .ref (b + 5)] (put (put w b 19 (shS b t)) a 19 (shS a s)) (fun r w2 => ∃ (z1 : RT), r = none ∧ w2 = put (put w b 19 (shS b t)) a 19 (shS a z1) ∧ K z1) := by
  refine Sp.ofX k_X3_copyFrom.1.1 (Nat.le_of_ble_eq_true rfl) ?_
  refine X.lv (lv2 := [(0, .ref (a + 5)), (1, .ref (b + 5))]) rfl ?_
  refine x_aload_n 1 d_X3_copyFrom_0 rfl rfl ?_
  refine x_ifnonnull (tgt := 5) d_X3_copyFrom_1 (by decide) ?_
  refine x_aload_n 1 d_X3_copyFrom_5 rfl rfl ?_
  refine x_getf 0 gf_X3_9 (put_out (by omega) gS_5) rfl d_X3_copyFrom_6 ?_
  refine x_aload_n 0 d_X3_copyFrom_9 rfl rfl ?_
  refine x_getf 0 gf_X3_9 gS_5 rfl d_X3_copyFrom_10 ?_
  refine x_iconst (v := (3 : Int32)) d_X3_copyFrom_13 (by decide) ?_
  refine x_invSN (rest := []) (d' := d - 1) (mc' := 0) (ms' := 0) [.ref (b + 6), .ref (a + 6), .int (3 : Int32)] "LagSolver" k_X9_copyRow lk_X3_31 rfl rfl (Nat.le_of_ble_eq_true rfl) (by omega) (Nat.le_refl _) (Nat.le_refl _) d_X3_copyFrom_14 ((spa_X9_copyRow (d := d - 1) (by omega) gS_6 (put_out (by omega) gS_6) (by omega) hQ).mono (fun r w2 hr => ?_))
  obtain ⟨f1, rfl, rfl, hQ⟩ := hr
  obtain ⟨s2, e_s2⟩ : ∃ z : RT, z = rI s 6 f1 := ⟨_, rfl⟩
  have hQ := hQ s2 e_s2
  refine X.world (w2 := put (put w b 19 (shS b t)) a 19 (shS a s2)) (by rw [e_s2]; exact sS_6) ?_
  refine x_aload_n 1 d_X3_copyFrom_17 rfl rfl ?_
  refine x_getf 1 gf_X3_15 (put_out (by omega) gS_5) rfl d_X3_copyFrom_18 ?_
  refine x_aload_n 0 d_X3_copyFrom_21 rfl rfl ?_
  refine x_getf 1 gf_X3_15 gS_5 rfl d_X3_copyFrom_22 ?_
  refine x_iconst (v := (3 : Int32)) d_X3_copyFrom_25 (by decide) ?_
  refine x_invSN (rest := []) (d' := d - 1) (mc' := 0) (ms' := 0) [.ref (b + 7), .ref (a + 7), .int (3 : Int32)] "LagSolver" k_X9_copyRow lk_X3_31 rfl rfl (Nat.le_of_ble_eq_true rfl) (by omega) (Nat.le_refl _) (Nat.le_refl _) d_X3_copyFrom_26 ((spa_X9_copyRow (d := d - 1) (by omega) gS_7 (put_out (by omega) gS_7) (by omega) hQ).mono (fun r w2 hr => ?_))
  obtain ⟨f3, rfl, rfl, hQ⟩ := hr
  obtain ⟨s4, e_s4⟩ : ∃ z : RT, z = rI s2 7 f3 := ⟨_, rfl⟩
  have hQ := hQ s4 e_s4
  refine X.world (w2 := put (put w b 19 (shS b t)) a 19 (shS a s4)) (by rw [e_s4]; exact sS_7) ?_
  exact x_vret (retV d_X3_copyFrom_29 rfl) ⟨_, rfl, rfl, hQ⟩
def wp_X1_copyFrom (t : RT) (s : RT) (K : RT → Prop) : Prop := wp_X9_copyRow 3 (t.1 9) 3 (s.1 9) (3 : Int32) (fun (f1 : Nat → Int32) => ∀ s2 : RT, s2 = rI s 9 f1 → wp_X9_copyRow 18 (t.1 10) 18 (s2.1 10) (18 : Int32) (fun (f3 : Nat → Int32) => ∀ s4 : RT, s4 = rI s2 10 f3 → wp_X9_copyRow 18 (t.1 11) 18 (s4.1 11) (18 : Int32) (fun (f5 : Nat → Int32) => ∀ s6 : RT, s6 = rI s4 11 f5 → K s6)))
set_option maxHeartbeats 4000000 in
theorem sp_X1_copyFrom {G : GX} {l : Launch} {d : Nat} {w : HW} {a b : Nat} {t : RT} {s : RT} {K : RT → Prop} (hd : 2 ≤ d) (hx_0_1 : b + 19 ≤ a ∨ a + 19 ≤ b) (hQ : wp_X1_copyFrom t s K) : Sp G l m_X1_copyFrom d 0 0 [.ref (a + 8), .ref (b + 8)] (put (put w b 19 (shS b t)) a 19 (shS a s)) (fun r w2 => ∃ (z1 : RT), r = none ∧ w2 = put (put w b 19 (shS b t)) a 19 (shS a z1) ∧ K z1) := by
  refine Sp.ofX k_X1_copyFrom.1.1 (Nat.le_of_ble_eq_true rfl) ?_
  refine X.lv (lv2 := [(0, .ref (a + 8)), (1, .ref (b + 8))]) rfl ?_
  refine x_aload_n 1 d_X1_copyFrom_0 rfl rfl ?_
  refine x_ifnonnull (tgt := 5) d_X1_copyFrom_1 (by decide) ?_
  refine x_aload_n 1 d_X1_copyFrom_5 rfl rfl ?_
  refine x_getf 0 gf_X1_9 (put_out (by omega) gS_8) rfl d_X1_copyFrom_6 ?_
  refine x_aload_n 0 d_X1_copyFrom_9 rfl rfl ?_
  refine x_getf 0 gf_X1_9 gS_8 rfl d_X1_copyFrom_10 ?_
  refine x_iconst (v := (3 : Int32)) d_X1_copyFrom_13 (by decide) ?_
  refine x_invSN (rest := []) (d' := d - 1) (mc' := 0) (ms' := 0) [.ref (b + 9), .ref (a + 9), .int (3 : Int32)] "LagSolver" k_X9_copyRow lk_X1_47 rfl rfl (Nat.le_of_ble_eq_true rfl) (by omega) (Nat.le_refl _) (Nat.le_refl _) d_X1_copyFrom_14 ((spa_X9_copyRow (d := d - 1) (by omega) gS_9 (put_out (by omega) gS_9) (by omega) hQ).mono (fun r w2 hr => ?_))
  obtain ⟨f1, rfl, rfl, hQ⟩ := hr
  obtain ⟨s2, e_s2⟩ : ∃ z : RT, z = rI s 9 f1 := ⟨_, rfl⟩
  have hQ := hQ s2 e_s2
  refine X.world (w2 := put (put w b 19 (shS b t)) a 19 (shS a s2)) (by rw [e_s2]; exact sS_9) ?_
  refine x_aload_n 1 d_X1_copyFrom_17 rfl rfl ?_
  refine x_getf 1 gf_X1_15 (put_out (by omega) gS_8) rfl d_X1_copyFrom_18 ?_
  refine x_aload_n 0 d_X1_copyFrom_21 rfl rfl ?_
  refine x_getf 1 gf_X1_15 gS_8 rfl d_X1_copyFrom_22 ?_
  refine x_bipush (v := (18 : Int32)) d_X1_copyFrom_25 (by decide) ?_
  refine x_invSN (rest := []) (d' := d - 1) (mc' := 0) (ms' := 0) [.ref (b + 10), .ref (a + 10), .int (18 : Int32)] "LagSolver" k_X9_copyRow lk_X1_47 rfl rfl (Nat.le_of_ble_eq_true rfl) (by omega) (Nat.le_refl _) (Nat.le_refl _) d_X1_copyFrom_27 ((spa_X9_copyRow (d := d - 1) (by omega) gS_10 (put_out (by omega) gS_10) (by omega) hQ).mono (fun r w2 hr => ?_))
  obtain ⟨f3, rfl, rfl, hQ⟩ := hr
  obtain ⟨s4, e_s4⟩ : ∃ z : RT, z = rI s2 10 f3 := ⟨_, rfl⟩
  have hQ := hQ s4 e_s4
  refine X.world (w2 := put (put w b 19 (shS b t)) a 19 (shS a s4)) (by rw [e_s4]; exact sS_10) ?_
  refine x_aload_n 1 d_X1_copyFrom_30 rfl rfl ?_
  refine x_getf 2 gf_X1_18 (put_out (by omega) gS_8) rfl d_X1_copyFrom_31 ?_
  refine x_aload_n 0 d_X1_copyFrom_34 rfl rfl ?_
  refine x_getf 2 gf_X1_18 gS_8 rfl d_X1_copyFrom_35 ?_
  refine x_bipush (v := (18 : Int32)) d_X1_copyFrom_38 (by decide) ?_
  refine x_invSN (rest := []) (d' := d - 1) (mc' := 0) (ms' := 0) [.ref (b + 11), .ref (a + 11), .int (18 : Int32)] "LagSolver" k_X9_copyRow lk_X1_47 rfl rfl (Nat.le_of_ble_eq_true rfl) (by omega) (Nat.le_refl _) (Nat.le_refl _) d_X1_copyFrom_40 ((spa_X9_copyRow (d := d - 1) (by omega) gS_11 (put_out (by omega) gS_11) (by omega) hQ).mono (fun r w2 hr => ?_))
  obtain ⟨f5, rfl, rfl, hQ⟩ := hr
  obtain ⟨s6, e_s6⟩ : ∃ z : RT, z = rI s4 11 f5 := ⟨_, rfl⟩
  have hQ := hQ s6 e_s6
  refine X.world (w2 := put (put w b 19 (shS b t)) a 19 (shS a s6)) (by rw [e_s6]; exact sS_11) ?_
  exact x_vret (retV d_X1_copyFrom_43 rfl) ⟨_, rfl, rfl, hQ⟩
def wp_X0_copyFrom (t : RT) (s : RT) (K : RT → Prop) : Prop := ∀ s1 : RT, s1 = rS s 0 (t.2.2 0) → wp_X9_copyRow 40 (t.1 14) 40 (s1.1 14) (40 : Int32) (fun (f2 : Nat → Int32) => ∀ s3 : RT, s3 = rI s1 14 f2 → wp_X9_copyRow 40 (t.1 15) 40 (s3.1 15) (40 : Int32) (fun (f4 : Nat → Int32) => ∀ s5 : RT, s5 = rI s3 15 f4 → wp_X9_copyRow 40 (t.1 16) 40 (s5.1 16) (40 : Int32) (fun (f6 : Nat → Int32) => ∀ s7 : RT, s7 = rI s5 16 f6 → K s7)))
set_option maxHeartbeats 4000000 in
theorem sp_X0_copyFrom {G : GX} {l : Launch} {d : Nat} {w : HW} {a b : Nat} {t : RT} {s : RT} {K : RT → Prop} (hd : 2 ≤ d) (hx_0_1 : b + 19 ≤ a ∨ a + 19 ≤ b) (hQ : wp_X0_copyFrom t s K) : Sp G l m_X0_copyFrom d 0 0 [.ref (a + 13), .ref (b + 13)] (put (put w b 19 (shS b t)) a 19 (shS a s)) (fun r w2 => ∃ (z1 : RT), r = none ∧ w2 = put (put w b 19 (shS b t)) a 19 (shS a z1) ∧ K z1) := by
  refine Sp.ofX k_X0_copyFrom.1.1 (Nat.le_of_ble_eq_true rfl) ?_
  refine X.lv (lv2 := [(0, .ref (a + 13)), (1, .ref (b + 13))]) rfl ?_
  refine x_aload_n 1 d_X0_copyFrom_0 rfl rfl ?_
  refine x_ifnonnull (tgt := 5) d_X0_copyFrom_1 (by decide) ?_
  refine x_aload_n 0 d_X0_copyFrom_5 rfl rfl ?_
  refine x_aload_n 1 d_X0_copyFrom_6 rfl rfl ?_
  refine x_getf 3 gf_X0_21 (put_out (by omega) gS_13) rfl d_X0_copyFrom_7 ?_
  refine x_putf 3 (.int) pf_X0_21 gS_13 rfl rfl (Nat.le_of_ble_eq_true rfl) d_X0_copyFrom_10 ?_
  obtain ⟨s1, e_s1⟩ : ∃ z : RT, z = rS s 0 (t.2.2 0) := ⟨_, rfl⟩
  have hQ := hQ s1 e_s1
  refine X.world (w2 := put (put w b 19 (shS b t)) a 19 (shS a s1)) (by rw [e_s1]; exact sS_13_0) ?_
  refine x_aload_n 1 d_X0_copyFrom_13 rfl rfl ?_
  refine x_getf 0 gf_X0_9 (put_out (by omega) gS_13) rfl d_X0_copyFrom_14 ?_
  refine x_aload_n 0 d_X0_copyFrom_17 rfl rfl ?_
  refine x_getf 0 gf_X0_9 gS_13 rfl d_X0_copyFrom_18 ?_
  refine x_bipush (v := (40 : Int32)) d_X0_copyFrom_21 (by decide) ?_
  refine x_invSN (rest := []) (d' := d - 1) (mc' := 0) (ms' := 0) [.ref (b + 14), .ref (a + 14), .int (40 : Int32)] "LagSolver" k_X9_copyRow lk_X0_63 rfl rfl (Nat.le_of_ble_eq_true rfl) (by omega) (Nat.le_refl _) (Nat.le_refl _) d_X0_copyFrom_23 ((spa_X9_copyRow (d := d - 1) (by omega) gS_14 (put_out (by omega) gS_14) (by omega) hQ).mono (fun r w2 hr => ?_))
  obtain ⟨f2, rfl, rfl, hQ⟩ := hr
  obtain ⟨s3, e_s3⟩ : ∃ z : RT, z = rI s1 14 f2 := ⟨_, rfl⟩
  have hQ := hQ s3 e_s3
  refine X.world (w2 := put (put w b 19 (shS b t)) a 19 (shS a s3)) (by rw [e_s3]; exact sS_14) ?_
  refine x_aload_n 1 d_X0_copyFrom_26 rfl rfl ?_
  refine x_getf 1 gf_X0_15 (put_out (by omega) gS_13) rfl d_X0_copyFrom_27 ?_
  refine x_aload_n 0 d_X0_copyFrom_30 rfl rfl ?_
  refine x_getf 1 gf_X0_15 gS_13 rfl d_X0_copyFrom_31 ?_
  refine x_bipush (v := (40 : Int32)) d_X0_copyFrom_34 (by decide) ?_
  refine x_invSN (rest := []) (d' := d - 1) (mc' := 0) (ms' := 0) [.ref (b + 15), .ref (a + 15), .int (40 : Int32)] "LagSolver" k_X9_copyRow lk_X0_63 rfl rfl (Nat.le_of_ble_eq_true rfl) (by omega) (Nat.le_refl _) (Nat.le_refl _) d_X0_copyFrom_36 ((spa_X9_copyRow (d := d - 1) (by omega) gS_15 (put_out (by omega) gS_15) (by omega) hQ).mono (fun r w2 hr => ?_))
  obtain ⟨f4, rfl, rfl, hQ⟩ := hr
  obtain ⟨s5, e_s5⟩ : ∃ z : RT, z = rI s3 15 f4 := ⟨_, rfl⟩
  have hQ := hQ s5 e_s5
  refine X.world (w2 := put (put w b 19 (shS b t)) a 19 (shS a s5)) (by rw [e_s5]; exact sS_15) ?_
  refine x_aload_n 1 d_X0_copyFrom_39 rfl rfl ?_
  refine x_getf 2 gf_X0_18 (put_out (by omega) gS_13) rfl d_X0_copyFrom_40 ?_
  refine x_aload_n 0 d_X0_copyFrom_43 rfl rfl ?_
  refine x_getf 2 gf_X0_18 gS_13 rfl d_X0_copyFrom_44 ?_
  refine x_bipush (v := (40 : Int32)) d_X0_copyFrom_47 (by decide) ?_
  refine x_invSN (rest := []) (d' := d - 1) (mc' := 0) (ms' := 0) [.ref (b + 16), .ref (a + 16), .int (40 : Int32)] "LagSolver" k_X9_copyRow lk_X0_63 rfl rfl (Nat.le_of_ble_eq_true rfl) (by omega) (Nat.le_refl _) (Nat.le_refl _) d_X0_copyFrom_49 ((spa_X9_copyRow (d := d - 1) (by omega) gS_16 (put_out (by omega) gS_16) (by omega) hQ).mono (fun r w2 hr => ?_))
  obtain ⟨f6, rfl, rfl, hQ⟩ := hr
  obtain ⟨s7, e_s7⟩ : ∃ z : RT, z = rI s5 16 f6 := ⟨_, rfl⟩
  have hQ := hQ s7 e_s7
  refine X.world (w2 := put (put w b 19 (shS b t)) a 19 (shS a s7)) (by rw [e_s7]; exact sS_16) ?_
  exact x_vret (retV d_X0_copyFrom_52 rfl) ⟨_, rfl, rfl, hQ⟩
def wp_X4_copyFrom (t : RT) (s : RT) (K : RT → Prop) : Prop := ∀ s1 : RT, s1 = rS s 1 (t.2.2 1) → wp_X9_copyRow 7688 (t.1 18) 7688 (s1.1 18) (((s1.2.2 1) + (1 : Int32)) * (8 : Int32)) (fun (f2 : Nat → Int32) => ∀ s3 : RT, s3 = rI s1 18 f2 → K s3)
set_option maxHeartbeats 4000000 in
theorem sp_X4_copyFrom {G : GX} {l : Launch} {d : Nat} {w : HW} {a b : Nat} {t : RT} {s : RT} {K : RT → Prop} (hd : 2 ≤ d) (hx_0_1 : b + 19 ≤ a ∨ a + 19 ≤ b) (hQ : wp_X4_copyFrom t s K) : Sp G l m_X4_copyFrom d 0 0 [.ref (a + 17), .ref (b + 17)] (put (put w b 19 (shS b t)) a 19 (shS a s)) (fun r w2 => ∃ (z1 : RT), r = none ∧ w2 = put (put w b 19 (shS b t)) a 19 (shS a z1) ∧ K z1) := by
  refine Sp.ofX k_X4_copyFrom.1.1 (Nat.le_of_ble_eq_true rfl) ?_
  refine X.lv (lv2 := [(0, .ref (a + 17)), (1, .ref (b + 17))]) rfl ?_
  refine x_aload_n 1 d_X4_copyFrom_0 rfl rfl ?_
  refine x_ifnonnull (tgt := 5) d_X4_copyFrom_1 (by decide) ?_
  refine x_aload_n 0 d_X4_copyFrom_5 rfl rfl ?_
  refine x_aload_n 1 d_X4_copyFrom_6 rfl rfl ?_
  refine x_getf 1 gf_X4_15 (put_out (by omega) gS_17) rfl d_X4_copyFrom_7 ?_
  refine x_putf 1 (.int) pf_X4_15 gS_17 rfl rfl (Nat.le_of_ble_eq_true rfl) d_X4_copyFrom_10 ?_
  obtain ⟨s1, e_s1⟩ : ∃ z : RT, z = rS s 1 (t.2.2 1) := ⟨_, rfl⟩
  have hQ := hQ s1 e_s1
  refine X.world (w2 := put (put w b 19 (shS b t)) a 19 (shS a s1)) (by rw [e_s1]; exact sS_17_1) ?_
  refine x_aload_n 1 d_X4_copyFrom_13 rfl rfl ?_
  refine x_getf 0 gf_X4_11 (put_out (by omega) gS_17) rfl d_X4_copyFrom_14 ?_
  refine x_aload_n 0 d_X4_copyFrom_17 rfl rfl ?_
  refine x_getf 0 gf_X4_11 gS_17 rfl d_X4_copyFrom_18 ?_
  refine x_aload_n 0 d_X4_copyFrom_21 rfl rfl ?_
  refine x_getf 1 gf_X4_15 gS_17 rfl d_X4_copyFrom_22 ?_
  refine x_iconst (v := (1 : Int32)) d_X4_copyFrom_25 (by decide) ?_
  refine x_iadd d_X4_copyFrom_26 ?_
  refine x_bipush (v := (8 : Int32)) d_X4_copyFrom_27 (by decide) ?_
  refine x_imul d_X4_copyFrom_29 ?_
  refine x_invSN (rest := []) (d' := d - 1) (mc' := 0) (ms' := 0) [.ref (b + 18), .ref (a + 18), .int (((s1.2.2 1) + (1 : Int32)) * (8 : Int32))] "LagSolver" k_X9_copyRow lk_X4_53 rfl rfl (Nat.le_of_ble_eq_true rfl) (by omega) (Nat.le_refl _) (Nat.le_refl _) d_X4_copyFrom_30 ((spa_X9_copyRow (d := d - 1) (by omega) gS_18 (put_out (by omega) gS_18) (by omega) hQ).mono (fun r w2 hr => ?_))
  obtain ⟨f2, rfl, rfl, hQ⟩ := hr
  obtain ⟨s3, e_s3⟩ : ∃ z : RT, z = rI s1 18 f2 := ⟨_, rfl⟩
  have hQ := hQ s3 e_s3
  refine X.world (w2 := put (put w b 19 (shS b t)) a 19 (shS a s3)) (by rw [e_s3]; exact sS_18) ?_
  exact x_vret (retV d_X4_copyFrom_33 rfl) ⟨_, rfl, rfl, hQ⟩
def wp_X6_copyProblem (t : RT) (s : RT) (K : RT → Prop) : Prop := wp_X5_copyFrom t s (fun (s1 : RT) => wp_X3_copyFrom t s1 (fun (s2 : RT) => wp_X1_copyFrom t s2 (fun (s3 : RT) => wp_X9_copyRow 3 (t.1 12) 3 (s3.1 12) (3 : Int32) (fun (f4 : Nat → Int32) => ∀ s5 : RT, s5 = rI s3 12 f4 → K s5))))
set_option maxHeartbeats 4000000 in
theorem sp_X6_copyProblem {G : GX} {l : Launch} {d : Nat} {w : HW} {a b : Nat} {t : RT} {s : RT} {K : RT → Prop} (hd : 3 ≤ d) (hx_0_1 : b + 19 ≤ a ∨ a + 19 ≤ b) (hQ : wp_X6_copyProblem t s K) : Sp G l m_X6_copyProblem d 0 0 [.ref a, .ref b] (put (put w b 19 (shS b t)) a 19 (shS a s)) (fun r w2 => ∃ (z1 : RT), r = none ∧ w2 = put (put w b 19 (shS b t)) a 19 (shS a z1) ∧ K z1) := by
  refine Sp.ofX k_X6_copyProblem.1.1 (Nat.le_of_ble_eq_true rfl) ?_
  refine X.lv (lv2 := [(0, .ref a), (1, .ref b)]) rfl ?_
  refine x_aload_n 1 d_X6_copyProblem_0 rfl rfl ?_
  refine x_ifnonnull (tgt := 5) d_X6_copyProblem_1 (by decide) ?_
  refine x_aload_n 0 d_X6_copyProblem_5 rfl rfl ?_
  refine x_getf 0 gf_X6_12 gS_0 rfl d_X6_copyProblem_6 ?_
  refine x_aload_n 1 d_X6_copyProblem_9 rfl rfl ?_
  refine x_getf 0 gf_X6_12 (put_out (by omega) gS_0) rfl d_X6_copyProblem_10 ?_
  refine x_invV (rest := []) (d' := d - 1) (mc' := 0) (ms' := 0) [.ref (b + 1)] k_X5_copyFrom lk_X6_84 gS_1 rfl rfl rfl (Nat.le_of_ble_eq_true rfl) (by omega) (Nat.le_refl _) (Nat.le_refl _) d_X6_copyProblem_13 ((sp_X5_copyFrom (d := d - 1) (by omega) (by omega) hQ).mono (fun r w2 hr => ?_))
  obtain ⟨s1, rfl, rfl, hQ⟩ := hr
  refine x_aload_n 0 d_X6_copyProblem_16 rfl rfl ?_
  refine x_getf 1 gf_X6_21 gS_0 rfl d_X6_copyProblem_17 ?_
  refine x_aload_n 1 d_X6_copyProblem_20 rfl rfl ?_
  refine x_getf 1 gf_X6_21 (put_out (by omega) gS_0) rfl d_X6_copyProblem_21 ?_
  refine x_invV (rest := []) (d' := d - 1) (mc' := 0) (ms' := 0) [.ref (b + 5)] k_X3_copyFrom lk_X6_88 gS_5 rfl rfl rfl (Nat.le_of_ble_eq_true rfl) (by omega) (Nat.le_refl _) (Nat.le_refl _) d_X6_copyProblem_24 ((sp_X3_copyFrom (d := d - 1) (by omega) (by omega) hQ).mono (fun r w2 hr => ?_))
  obtain ⟨s2, rfl, rfl, hQ⟩ := hr
  refine x_aload_n 0 d_X6_copyProblem_27 rfl rfl ?_
  refine x_getf 2 gf_X6_28 gS_0 rfl d_X6_copyProblem_28 ?_
  refine x_aload_n 1 d_X6_copyProblem_31 rfl rfl ?_
  refine x_getf 2 gf_X6_28 (put_out (by omega) gS_0) rfl d_X6_copyProblem_32 ?_
  refine x_invV (rest := []) (d' := d - 1) (mc' := 0) (ms' := 0) [.ref (b + 8)] k_X1_copyFrom lk_X6_91 gS_8 rfl rfl rfl (Nat.le_of_ble_eq_true rfl) (by omega) (Nat.le_refl _) (Nat.le_refl _) d_X6_copyProblem_35 ((sp_X1_copyFrom (d := d - 1) (by omega) (by omega) hQ).mono (fun r w2 hr => ?_))
  obtain ⟨s3, rfl, rfl, hQ⟩ := hr
  refine x_aload_n 1 d_X6_copyProblem_38 rfl rfl ?_
  refine x_getf 3 gf_X6_32 (put_out (by omega) gS_0) rfl d_X6_copyProblem_39 ?_
  refine x_aload_n 0 d_X6_copyProblem_42 rfl rfl ?_
  refine x_getf 3 gf_X6_32 gS_0 rfl d_X6_copyProblem_43 ?_
  refine x_iconst (v := (3 : Int32)) d_X6_copyProblem_46 (by decide) ?_
  refine x_invSN (rest := []) (d' := d - 1) (mc' := 0) (ms' := 0) [.ref (b + 12), .ref (a + 12), .int (3 : Int32)] "LagSolver" k_X9_copyRow lk_X6_93 rfl rfl (Nat.le_of_ble_eq_true rfl) (by omega) (Nat.le_refl _) (Nat.le_refl _) d_X6_copyProblem_47 ((spa_X9_copyRow (d := d - 1) (by omega) gS_12 (put_out (by omega) gS_12) (by omega) hQ).mono (fun r w2 hr => ?_))
  obtain ⟨f4, rfl, rfl, hQ⟩ := hr
  obtain ⟨s5, e_s5⟩ : ∃ z : RT, z = rI s3 12 f4 := ⟨_, rfl⟩
  have hQ := hQ s5 e_s5
  refine X.world (w2 := put (put w b 19 (shS b t)) a 19 (shS a s5)) (by rw [e_s5]; exact sS_12) ?_
  exact x_vret (retV d_X6_copyProblem_50 rfl) ⟨_, rfl, rfl, hQ⟩
def wp_X6_copyFrom (t : RT) (s : RT) (K : RT → Prop) : Prop := wp_X6_copyProblem t s (fun (s1 : RT) => wp_X0_copyFrom t s1 (fun (s2 : RT) => wp_X4_copyFrom t s2 (fun (s3 : RT) => K s3)))
set_option maxHeartbeats 4000000 in
theorem sp_X6_copyFrom {G : GX} {l : Launch} {d : Nat} {w : HW} {a b : Nat} {t : RT} {s : RT} {K : RT → Prop} (hd : 4 ≤ d) (hx_0_1 : b + 19 ≤ a ∨ a + 19 ≤ b) (hQ : wp_X6_copyFrom t s K) : Sp G l m_X6_copyFrom d 0 0 [.ref a, .ref b] (put (put w b 19 (shS b t)) a 19 (shS a s)) (fun r w2 => ∃ (z1 : RT), r = none ∧ w2 = put (put w b 19 (shS b t)) a 19 (shS a z1) ∧ K z1) := by
  refine Sp.ofX k_X6_copyFrom.1.1 (Nat.le_of_ble_eq_true rfl) ?_
  refine X.lv (lv2 := [(0, .ref a), (1, .ref b)]) rfl ?_
  refine x_aload_n 1 d_X6_copyFrom_0 rfl rfl ?_
  refine x_ifnonnull (tgt := 5) d_X6_copyFrom_1 (by decide) ?_
  refine x_aload_n 0 d_X6_copyFrom_5 rfl rfl ?_
  refine x_aload_n 1 d_X6_copyFrom_6 rfl rfl ?_
  refine x_invV (rest := []) (d' := d - 1) (mc' := 0) (ms' := 0) [.ref b] k_X6_copyProblem lk_X6_97 gS_0 rfl rfl rfl (Nat.le_of_ble_eq_true rfl) (by omega) (Nat.le_refl _) (Nat.le_refl _) d_X6_copyFrom_7 ((sp_X6_copyProblem (d := d - 1) (by omega) (by omega) hQ).mono (fun r w2 hr => ?_))
  obtain ⟨s1, rfl, rfl, hQ⟩ := hr
  refine x_aload_n 0 d_X6_copyFrom_10 rfl rfl ?_
  refine x_getf 4 gf_X6_39 gS_0 rfl d_X6_copyFrom_11 ?_
  refine x_aload_n 1 d_X6_copyFrom_14 rfl rfl ?_
  refine x_getf 4 gf_X6_39 (put_out (by omega) gS_0) rfl d_X6_copyFrom_15 ?_
  refine x_invV (rest := []) (d' := d - 1) (mc' := 0) (ms' := 0) [.ref (b + 13)] k_X0_copyFrom lk_X6_101 gS_13 rfl rfl rfl (Nat.le_of_ble_eq_true rfl) (by omega) (Nat.le_refl _) (Nat.le_refl _) d_X6_copyFrom_18 ((sp_X0_copyFrom (d := d - 1) (by omega) (by omega) hQ).mono (fun r w2 hr => ?_))
  obtain ⟨s2, rfl, rfl, hQ⟩ := hr
  refine x_aload_n 0 d_X6_copyFrom_21 rfl rfl ?_
  refine x_getf 5 gf_X6_46 gS_0 rfl d_X6_copyFrom_22 ?_
  refine x_aload_n 1 d_X6_copyFrom_25 rfl rfl ?_
  refine x_getf 5 gf_X6_46 (put_out (by omega) gS_0) rfl d_X6_copyFrom_26 ?_
  refine x_invV (rest := []) (d' := d - 1) (mc' := 0) (ms' := 0) [.ref (b + 17)] k_X4_copyFrom lk_X6_104 gS_17 rfl rfl rfl (Nat.le_of_ble_eq_true rfl) (by omega) (Nat.le_refl _) (Nat.le_refl _) d_X6_copyFrom_29 ((sp_X4_copyFrom (d := d - 1) (by omega) (by omega) hQ).mono (fun r w2 hr => ?_))
  obtain ⟨s3, rfl, rfl, hQ⟩ := hr
  exact x_vret (retV d_X6_copyFrom_32 rfl) ⟨_, rfl, rfl, hQ⟩
def wp_X7_guessedValue (p : RT) (s : RT) (i : Int32) (u : Int32) (x : Int32) (K : Int32 → Prop) : Prop := wp_X9_pick 3 (p.1 3) i (fun (r1 : Int32) => ∀ x2 : Int64, x2 = r1.toInt64 → wp_X9_pick 3 (p.1 4) i (fun (r3 : Int32) => ∀ x4 : Int64, x4 = (r3.toInt64) - x2 → wp_X9_quotient (x4 * (u.toInt64)) (x.toInt64) (fun (r5 : Int64) => wp_X9_hold (x2 + r5) (fun (r6 : Int32) => K r6))))
set_option maxHeartbeats 4000000 in
theorem sp_X7_guessedValue {G : GX} {l : Launch} {d : Nat} {w : HW} {a b : Nat} {p : RT} {s : RT} {i : Int32} {u : Int32} {x : Int32} {K : Int32 → Prop} (hd : 1 ≤ d) (hx_0_1 : b + 7 ≤ a ∨ a + 19 ≤ b) (hQ : wp_X7_guessedValue p s i u x K) : Sp G l m_X7_guessedValue d 0 0 [.ref b, .int i, .int u, .int x] (put (put w b 7 (shP b p)) a 19 (shS a s)) (fun r w2 => ∃ (r1 : Int32), r = some (.int r1) ∧ w2 = put (put w b 7 (shP b p)) a 19 (shS a s) ∧ K r1) := by
  refine Sp.ofX k_X7_guessedValue.1.1 (Nat.le_of_ble_eq_true rfl) ?_
  refine X.lv (lv2 := [(0, .ref b), (1, .int i), (2, .int u), (3, .int x)]) rfl ?_
  refine x_aload_n 0 d_X7_guessedValue_0 rfl rfl ?_
  refine x_getf 2 gf_X7_18 (put_out (by omega) gP_0) rfl d_X7_guessedValue_1 ?_
  refine x_iload_n 1 d_X7_guessedValue_4 rfl rfl ?_
  refine x_invSN (rest := []) (d' := d - 1) (mc' := 0) (ms' := 0) [.ref (b + 3), .int i] "LagSolver" k_X9_pick lk_X7_61 rfl rfl (Nat.le_of_ble_eq_true rfl) (by omega) (Nat.le_refl _) (Nat.le_refl _) d_X7_guessedValue_5 ((sp_X9_pick (d := d - 1) (by omega) (put_out (by omega) gP_3) hQ).mono (fun r w2 hr => ?_))
  obtain ⟨r1, rfl, rfl, hQ⟩ := hr
  refine x_i2l d_X7_guessedValue_8 rfl ?_
  refine x_topl (fun x2 e_x2 => ?_)
  have hQ := hQ x2 e_x2
  refine x_lstore (lv2 := [(4, .long x2), (0, .ref b), (1, .int i), (2, .int u), (3, .int x)]) d_X7_guessedValue_9 (by decide) rfl ?_
  refine x_aload_n 1 d_X7_guessedValue_11 rfl rfl ?_
  refine x_getf 3 gf_X7_21 (put_out (by omega) gP_0) rfl d_X7_guessedValue_12 ?_
  refine x_iload_n 2 d_X7_guessedValue_15 rfl rfl ?_
  refine x_invSN (rest := []) (d' := d - 1) (mc' := 0) (ms' := 0) [.ref (b + 4), .int i] "LagSolver" k_X9_pick lk_X7_61 rfl rfl (Nat.le_of_ble_eq_true rfl) (by omega) (Nat.le_refl _) (Nat.le_refl _) d_X7_guessedValue_16 ((sp_X9_pick (d := d - 1) (by omega) (put_out (by omega) gP_4) hQ).mono (fun r w2 hr => ?_))
  obtain ⟨r3, rfl, rfl, hQ⟩ := hr
  refine x_i2l d_X7_guessedValue_19 rfl ?_
  refine x_lload 0 d_X7_guessedValue_20 rfl ?_
  refine x_lsub d_X7_guessedValue_22 ?_
  refine x_topl (fun x4 e_x4 => ?_)
  have hQ := hQ x4 e_x4
  refine x_lstore (lv2 := [(6, .long x4), (4, .long x2), (0, .ref b), (1, .int i), (2, .int u), (3, .int x)]) d_X7_guessedValue_23 (by decide) rfl ?_
  refine x_lload 1 d_X7_guessedValue_25 rfl ?_
  refine x_lload 0 d_X7_guessedValue_27 rfl ?_
  refine x_iload_n 4 d_X7_guessedValue_29 rfl rfl ?_
  refine x_i2l d_X7_guessedValue_30 rfl ?_
  refine x_lmul d_X7_guessedValue_31 ?_
  refine x_iload_n 5 d_X7_guessedValue_32 rfl rfl ?_
  refine x_i2l d_X7_guessedValue_33 rfl ?_
  refine x_invSN (rest := [.long x2]) (d' := d - 1) (mc' := 0) (ms' := 0) [.long (x4 * (u.toInt64)), .long (x.toInt64)] "LagSolver" k_X9_quotient lk_X7_150 rfl rfl (Nat.le_of_ble_eq_true rfl) (by omega) (Nat.le_refl _) (Nat.le_refl _) d_X7_guessedValue_34 ((sp_X9_quotient (d := d - 1) (by omega) hQ).mono (fun r w2 hr => ?_))
  obtain ⟨r5, rfl, rfl, hQ⟩ := hr
  refine x_ladd d_X7_guessedValue_37 ?_
  refine x_invSN (rest := []) (d' := d - 1) (mc' := 0) (ms' := 0) [.long (x2 + r5)] "LagSolver" k_X9_hold lk_X7_85 rfl rfl (Nat.le_of_ble_eq_true rfl) (by omega) (Nat.le_refl _) (Nat.le_refl _) d_X7_guessedValue_38 ((sp_X9_hold (d := d - 1) (by omega) hQ).mono (fun r w2 hr => ?_))
  obtain ⟨r6, rfl, rfl, hQ⟩ := hr
  exact x_iret (retI d_X7_guessedValue_41 rfl) ⟨_, rfl, rfl, hQ⟩
def wp_X7_guessedSlope (p : RT) (s : RT) (i : Int32) (x : Int32) (K : Int32 → Prop) : Prop := wp_X9_pick 3 (p.1 4) i (fun (r1 : Int32) => wp_X9_pick 3 (p.1 3) i (fun (r2 : Int32) => ∀ x3 : Int64, x3 = (r1.toInt64) - (r2.toInt64) → wp_X9_quotient (x3 * (1000 : Int64)) (x.toInt64) (fun (r4 : Int64) => wp_X9_hold r4 (fun (r5 : Int32) => K r5))))
set_option maxHeartbeats 4000000 in
theorem sp_X7_guessedSlope {G : GX} {l : Launch} {d : Nat} {w : HW} {a b : Nat} {p : RT} {s : RT} {i : Int32} {x : Int32} {K : Int32 → Prop} (hd : 1 ≤ d) (hx_0_1 : b + 7 ≤ a ∨ a + 19 ≤ b) (hQ : wp_X7_guessedSlope p s i x K) : Sp G l m_X7_guessedSlope d 0 0 [.ref b, .int i, .int x] (put (put w b 7 (shP b p)) a 19 (shS a s)) (fun r w2 => ∃ (r1 : Int32), r = some (.int r1) ∧ w2 = put (put w b 7 (shP b p)) a 19 (shS a s) ∧ K r1) := by
  refine Sp.ofX k_X7_guessedSlope.1.1 (Nat.le_of_ble_eq_true rfl) ?_
  refine X.lv (lv2 := [(0, .ref b), (1, .int i), (2, .int x)]) rfl ?_
  refine x_aload_n 0 d_X7_guessedSlope_0 rfl rfl ?_
  refine x_getf 3 gf_X7_21 (put_out (by omega) gP_0) rfl d_X7_guessedSlope_1 ?_
  refine x_iload_n 1 d_X7_guessedSlope_4 rfl rfl ?_
  refine x_invSN (rest := []) (d' := d - 1) (mc' := 0) (ms' := 0) [.ref (b + 4), .int i] "LagSolver" k_X9_pick lk_X7_61 rfl rfl (Nat.le_of_ble_eq_true rfl) (by omega) (Nat.le_refl _) (Nat.le_refl _) d_X7_guessedSlope_5 ((sp_X9_pick (d := d - 1) (by omega) (put_out (by omega) gP_4) hQ).mono (fun r w2 hr => ?_))
  obtain ⟨r1, rfl, rfl, hQ⟩ := hr
  refine x_i2l d_X7_guessedSlope_8 rfl ?_
  refine x_aload_n 0 d_X7_guessedSlope_9 rfl rfl ?_
  refine x_getf 2 gf_X7_18 (put_out (by omega) gP_0) rfl d_X7_guessedSlope_10 ?_
  refine x_iload_n 1 d_X7_guessedSlope_13 rfl rfl ?_
  refine x_invSN (rest := [.long (r1.toInt64)]) (d' := d - 1) (mc' := 0) (ms' := 0) [.ref (b + 3), .int i] "LagSolver" k_X9_pick lk_X7_61 rfl rfl (Nat.le_of_ble_eq_true rfl) (by omega) (Nat.le_refl _) (Nat.le_refl _) d_X7_guessedSlope_14 ((sp_X9_pick (d := d - 1) (by omega) (put_out (by omega) gP_3) hQ).mono (fun r w2 hr => ?_))
  obtain ⟨r2, rfl, rfl, hQ⟩ := hr
  refine x_i2l d_X7_guessedSlope_17 rfl ?_
  refine x_lsub d_X7_guessedSlope_18 ?_
  refine x_topl (fun x3 e_x3 => ?_)
  have hQ := hQ x3 e_x3
  refine x_lstore_n (lv2 := [(3, .long x3), (0, .ref b), (1, .int i), (2, .int x)]) d_X7_guessedSlope_19 rfl (by decide) rfl ?_
  refine x_lload_n 0 d_X7_guessedSlope_20 rfl rfl ?_
  refine x_ldc2 (v := (1000 : Int64)) kc_X7_83 d_X7_guessedSlope_21 ?_
  refine x_lmul d_X7_guessedSlope_24 ?_
  refine x_iload_n 3 d_X7_guessedSlope_25 rfl rfl ?_
  refine x_i2l d_X7_guessedSlope_26 rfl ?_
  refine x_invSN (rest := []) (d' := d - 1) (mc' := 0) (ms' := 0) [.long (x3 * (1000 : Int64)), .long (x.toInt64)] "LagSolver" k_X9_quotient lk_X7_150 rfl rfl (Nat.le_of_ble_eq_true rfl) (by omega) (Nat.le_refl _) (Nat.le_refl _) d_X7_guessedSlope_27 ((sp_X9_quotient (d := d - 1) (by omega) hQ).mono (fun r w2 hr => ?_))
  obtain ⟨r4, rfl, rfl, hQ⟩ := hr
  refine x_invSN (rest := []) (d' := d - 1) (mc' := 0) (ms' := 0) [.long r4] "LagSolver" k_X9_hold lk_X7_85 rfl rfl (Nat.le_of_ble_eq_true rfl) (by omega) (Nat.le_refl _) (Nat.le_refl _) d_X7_guessedSlope_30 ((sp_X9_hold (d := d - 1) (by omega) hQ).mono (fun r w2 hr => ?_))
  obtain ⟨r5, rfl, rfl, hQ⟩ := hr
  exact x_iret (retI d_X7_guessedSlope_33 rfl) ⟨_, rfl, rfl, hQ⟩
def jp_X7_gather_167 (s : RT) (u : Int32) (v : Int32) (K : RT → Prop) (k_54 : Int32 → Int32 → RT → Prop) (k_101 : Int32 → Int32 → Int32 → Int32 → Int32 → RT → Prop) (x_4 : Int32) (x_5 : Int32) (x_6 : Int32) (x_7 : Int32) (x_8 : Int32) (y_0 : RT) : Prop := wp_X9_slopeOperand x_5 x_8 (fun (r16 : Int32) => wp_X9_hasBit x_4 r16 (fun (r17 : Int32) => ((r17 = (0 : Int32) → ∀ x19 : Int32, x19 = x_8 + (1 : Int32) → k_101 x_4 x_5 x_6 x_7 x19 y_0) ∧ (¬ r17 = (0 : Int32) → ((x_6 ≤ v → wp_X6_slopeIn s x_7 x_8 x_6 (fun (r21 : Int32) => wp_X9_put 22 (y_0.1 1) r16 r21 (fun (f22 : Nat → Int32) => ∀ s23 : RT, s23 = rI y_0 1 f22 → ∀ x24 : Int32, x24 = x_8 + (1 : Int32) → k_101 x_4 x_5 x_6 x_7 x24 s23))) ∧ (¬ x_6 ≤ v → wp_X7_guessedSlope y_0 s x_8 (u - v) (fun (r25 : Int32) => wp_X9_put 22 (y_0.1 1) r16 r25 (fun (f26 : Nat → Int32) => ∀ s27 : RT, s27 = rI y_0 1 f26 → ∀ x28 : Int32, x28 = x_8 + (1 : Int32) → k_101 x_4 x_5 x_6 x_7 x28 s27))))))))
set_option maxHeartbeats 4000000 in
theorem jt_X7_gather_167 {G : GX} {l : Launch} {d : Nat} {w : HW} {a b : Nat} {s : RT} {u : Int32} {v : Int32} {K : RT → Prop} {k_54 : Int32 → Int32 → RT → Prop} {k_101 : Int32 → Int32 → Int32 → Int32 → Int32 → RT → Prop} (hd : 4 ≤ d) (hx_0_1 : b + 7 ≤ a ∨ a + 19 ≤ b) (hk_54 : ∀ (x_4 : Int32) (x_5 : Int32) (y_0 : RT), k_54 x_4 x_5 y_0 → X G l m_X7_gather d 0 0 0 0 54 [(0, .ref b), (1, .ref a), (2, .int u), (3, .int v), (4, .int x_4), (5, .int x_5)] [] (put (put w b 7 (shP b y_0)) a 19 (shS a s)) (fun r w2 => ∃ (z0 : RT), r = none ∧ w2 = put (put w b 7 (shP b z0)) a 19 (shS a s) ∧ K z0)) (hk_101 : ∀ (x_4 : Int32) (x_5 : Int32) (x_6 : Int32) (x_7 : Int32) (x_8 : Int32) (y_0 : RT), k_101 x_4 x_5 x_6 x_7 x_8 y_0 → X G l m_X7_gather d 0 0 0 0 101 [(0, .ref b), (1, .ref a), (2, .int u), (3, .int v), (4, .int x_4), (5, .int x_5), (6, .int x_6), (7, .int x_7), (8, .int x_8)] [] (put (put w b 7 (shP b y_0)) a 19 (shS a s)) (fun r w2 => ∃ (z0 : RT), r = none ∧ w2 = put (put w b 7 (shP b z0)) a 19 (shS a s) ∧ K z0)) (x_4 : Int32) (x_5 : Int32) (x_6 : Int32) (x_7 : Int32) (x_8 : Int32) (y_0 : RT) (hQ : jp_X7_gather_167 s u v K k_54 k_101 x_4 x_5 x_6 x_7 x_8 y_0) : X G l m_X7_gather d 0 0 0 0 167 [(0, .ref b), (1, .ref a), (2, .int u), (3, .int v), (4, .int x_4), (5, .int x_5), (6, .int x_6), (7, .int x_7), (8, .int x_8)] [] (put (put w b 7 (shP b y_0)) a 19 (shS a s)) (fun r w2 => ∃ (z0 : RT), r = none ∧ w2 = put (put w b 7 (shP b z0)) a 19 (shS a s) ∧ K z0) := by
  refine x_iload 5 d_X7_gather_167 rfl ?_
  refine x_iload 8 d_X7_gather_169 rfl ?_
  refine x_invSN (rest := []) (d' := d - 1) (mc' := 0) (ms' := 0) [.int x_5, .int x_8] "LagSolver" k_X9_slopeOperand lk_X7_141 rfl rfl (Nat.le_of_ble_eq_true rfl) (by omega) (Nat.le_refl _) (Nat.le_refl _) d_X7_gather_171 ((sp_X9_slopeOperand (d := d - 1) (by omega) hQ).mono (fun r w2 hr => ?_))
  obtain ⟨r16, rfl, rfl, hQ⟩ := hr
  refine x_istore (lv2 := [(9, .int r16), (0, .ref b), (1, .ref a), (2, .int u), (3, .int v), (4, .int x_4), (5, .int x_5), (6, .int x_6), (7, .int x_7), (8, .int x_8)]) d_X7_gather_174 (by decide) rfl ?_
  refine x_iload 5 d_X7_gather_176 rfl ?_
  refine x_iload 0 d_X7_gather_178 rfl ?_
  refine x_invSN (rest := []) (d' := d - 1) (mc' := 0) (ms' := 0) [.int x_4, .int r16] "LagSolver" k_X9_hasBit lk_X7_135 rfl rfl (Nat.le_of_ble_eq_true rfl) (by omega) (Nat.le_refl _) (Nat.le_refl _) d_X7_gather_180 ((sp_X9_hasBit (d := d - 1) (by omega) hQ).mono (fun r w2 hr => ?_))
  obtain ⟨r17, rfl, rfl, hQ⟩ := hr
  refine x_if_eq (tgt := 223) d_X7_gather_183 (by decide) (fun c_183_18 => ?_) (fun c_183_18 => ?_)
  · have hQ := hQ.1 c_183_18
    obtain ⟨x19, e_x19⟩ : ∃ z : Int32, z = x_8 + (1 : Int32) := ⟨_, rfl⟩
    have hQ := hQ x19 e_x19
    refine x_iinc (v := x19) (lv2 := [(8, .int x19), (9, .int r16), (0, .ref b), (1, .ref a), (2, .int u), (3, .int v), (4, .int x_4), (5, .int x_5), (6, .int x_6), (7, .int x_7)]) 9 d_X7_gather_223 rfl (by rw [e_x19]; rfl) (by decide) rfl ?_
    refine x_goto (tgt := 101) d_X7_gather_226 (by decide) ?_
    refine x_sub [2, 3, 4, 5, 6, 7, 8, 9, 0] (lv2 := [(0, .ref b), (1, .ref a), (2, .int u), (3, .int v), (4, .int x_4), (5, .int x_5), (6, .int x_6), (7, .int x_7), (8, .int x19)]) rfl ?_
    exact hk_101 x_4 x_5 x_6 x_7 x19 y_0 hQ
  · have hQ := hQ.2 c_183_18
    refine x_aload_n 1 d_X7_gather_186 rfl rfl ?_
    refine x_getf 0 gf_X7_9 (put_out (by omega) gP_0) rfl d_X7_gather_187 ?_
    refine x_iload 0 d_X7_gather_190 rfl ?_
    refine x_iload 7 d_X7_gather_192 rfl ?_
    refine x_iload_n 4 d_X7_gather_194 rfl rfl ?_
    refine x_icmp_le (tgt := 210) d_X7_gather_195 (by decide) (fun c_195_20 => ?_) (fun c_195_20 => ?_)
    · have hQ := hQ.1 c_195_20
      refine x_aload_n 2 d_X7_gather_210 rfl rfl ?_
      refine x_iload 8 d_X7_gather_211 rfl ?_
      refine x_iload 9 d_X7_gather_213 rfl ?_
      refine x_iload 7 d_X7_gather_215 rfl ?_
      refine x_invV (rest := [.int r16, .ref (b + 1)]) (d' := d - 1) (mc' := 0) (ms' := 0) [.int x_7, .int x_8, .int x_6] k_X6_slopeIn lk_X7_147 gS_0 rfl rfl rfl (Nat.le_of_ble_eq_true rfl) (by omega) (Nat.le_refl _) (Nat.le_refl _) d_X7_gather_217 ((sp_X6_slopeIn (d := d - 1) (by omega) hQ).mono (fun r w2 hr => ?_))
      obtain ⟨r21, rfl, rfl, hQ⟩ := hr
      refine x_invSN (rest := []) (d' := d - 1) (mc' := 0) (ms' := 0) [.ref (b + 1), .int r16, .int r21] "LagSolver" k_X9_put lk_X7_72 rfl rfl (Nat.le_of_ble_eq_true rfl) (by omega) (Nat.le_refl _) (Nat.le_refl _) d_X7_gather_220 ((spa_X9_put (d := d - 1) (by omega) (put_out (by omega) gP_1) hQ).mono (fun r w2 hr => ?_))
      obtain ⟨f22, rfl, rfl, hQ⟩ := hr
      obtain ⟨s23, e_s23⟩ : ∃ z : RT, z = rI y_0 1 f22 := ⟨_, rfl⟩
      have hQ := hQ s23 e_s23
      refine X.world (w2 := put (put w b 7 (shP b s23)) a 19 (shS a s)) (by rw [e_s23]; exact (hset_out (by omega) sP_1)) ?_
      obtain ⟨x24, e_x24⟩ : ∃ z : Int32, z = x_8 + (1 : Int32) := ⟨_, rfl⟩
      have hQ := hQ x24 e_x24
      refine x_iinc (v := x24) (lv2 := [(8, .int x24), (9, .int r16), (0, .ref b), (1, .ref a), (2, .int u), (3, .int v), (4, .int x_4), (5, .int x_5), (6, .int x_6), (7, .int x_7)]) 9 d_X7_gather_223 rfl (by rw [e_x24]; rfl) (by decide) rfl ?_
      refine x_goto (tgt := 101) d_X7_gather_226 (by decide) ?_
      refine x_sub [2, 3, 4, 5, 6, 7, 8, 9, 0] (lv2 := [(0, .ref b), (1, .ref a), (2, .int u), (3, .int v), (4, .int x_4), (5, .int x_5), (6, .int x_6), (7, .int x_7), (8, .int x24)]) rfl ?_
      exact hk_101 x_4 x_5 x_6 x_7 x24 s23 hQ
    · have hQ := hQ.2 c_195_20
      refine x_aload_n 1 d_X7_gather_198 rfl rfl ?_
      refine x_iload 9 d_X7_gather_199 rfl ?_
      refine x_iload_n 3 d_X7_gather_201 rfl rfl ?_
      refine x_iload_n 4 d_X7_gather_202 rfl rfl ?_
      refine x_isub d_X7_gather_203 ?_
      refine x_invV (rest := [.int r16, .ref (b + 1)]) (d' := d - 1) (mc' := 0) (ms' := 0) [.int x_8, .int (u - v)] k_X7_guessedSlope lk_X7_144 (put_out (by omega) gP_0) rfl rfl rfl (Nat.le_of_ble_eq_true rfl) (by omega) (Nat.le_refl _) (Nat.le_refl _) d_X7_gather_204 ((sp_X7_guessedSlope (d := d - 1) (by omega) (by omega) hQ).mono (fun r w2 hr => ?_))
      obtain ⟨r25, rfl, rfl, hQ⟩ := hr
      refine x_goto (tgt := 220) d_X7_gather_207 (by decide) ?_
      refine x_invSN (rest := []) (d' := d - 1) (mc' := 0) (ms' := 0) [.ref (b + 1), .int r16, .int r25] "LagSolver" k_X9_put lk_X7_72 rfl rfl (Nat.le_of_ble_eq_true rfl) (by omega) (Nat.le_refl _) (Nat.le_refl _) d_X7_gather_220 ((spa_X9_put (d := d - 1) (by omega) (put_out (by omega) gP_1) hQ).mono (fun r w2 hr => ?_))
      obtain ⟨f26, rfl, rfl, hQ⟩ := hr
      obtain ⟨s27, e_s27⟩ : ∃ z : RT, z = rI y_0 1 f26 := ⟨_, rfl⟩
      have hQ := hQ s27 e_s27
      refine X.world (w2 := put (put w b 7 (shP b s27)) a 19 (shS a s)) (by rw [e_s27]; exact (hset_out (by omega) sP_1)) ?_
      obtain ⟨x28, e_x28⟩ : ∃ z : Int32, z = x_8 + (1 : Int32) := ⟨_, rfl⟩
      have hQ := hQ x28 e_x28
      refine x_iinc (v := x28) (lv2 := [(8, .int x28), (9, .int r16), (0, .ref b), (1, .ref a), (2, .int u), (3, .int v), (4, .int x_4), (5, .int x_5), (6, .int x_6), (7, .int x_7)]) 9 d_X7_gather_223 rfl (by rw [e_x28]; rfl) (by decide) rfl ?_
      refine x_goto (tgt := 101) d_X7_gather_226 (by decide) ?_
      refine x_sub [2, 3, 4, 5, 6, 7, 8, 9, 0] (lv2 := [(0, .ref b), (1, .ref a), (2, .int u), (3, .int v), (4, .int x_4), (5, .int x_5), (6, .int x_6), (7, .int x_7), (8, .int x28)]) rfl ?_
      exact hk_101 x_4 x_5 x_6 x_7 x28 s27 hQ
def jp_X7_gather_164 (s : RT) (u : Int32) (v : Int32) (K : RT → Prop) (k_54 : Int32 → Int32 → RT → Prop) (k_101 : Int32 → Int32 → Int32 → Int32 → Int32 → RT → Prop) (x_4 : Int32) (x_5 : Int32) (x_6 : Int32) (x_7 : Int32) (x_8 : Int32) (t_0 : Int32) (t_1 : Int32) (y_0 : RT) : Prop := wp_X9_put 22 (y_0.1 1) t_1 t_0 (fun (f31 : Nat → Int32) => ∀ s32 : RT, s32 = rI y_0 1 f31 → jp_X7_gather_167 s u v K k_54 k_101 x_4 x_5 x_6 x_7 x_8 s32)
set_option maxHeartbeats 4000000 in
theorem jt_X7_gather_164 {G : GX} {l : Launch} {d : Nat} {w : HW} {a b : Nat} {s : RT} {u : Int32} {v : Int32} {K : RT → Prop} {k_54 : Int32 → Int32 → RT → Prop} {k_101 : Int32 → Int32 → Int32 → Int32 → Int32 → RT → Prop} (hd : 4 ≤ d) (hx_0_1 : b + 7 ≤ a ∨ a + 19 ≤ b) (hk_54 : ∀ (x_4 : Int32) (x_5 : Int32) (y_0 : RT), k_54 x_4 x_5 y_0 → X G l m_X7_gather d 0 0 0 0 54 [(0, .ref b), (1, .ref a), (2, .int u), (3, .int v), (4, .int x_4), (5, .int x_5)] [] (put (put w b 7 (shP b y_0)) a 19 (shS a s)) (fun r w2 => ∃ (z0 : RT), r = none ∧ w2 = put (put w b 7 (shP b z0)) a 19 (shS a s) ∧ K z0)) (hk_101 : ∀ (x_4 : Int32) (x_5 : Int32) (x_6 : Int32) (x_7 : Int32) (x_8 : Int32) (y_0 : RT), k_101 x_4 x_5 x_6 x_7 x_8 y_0 → X G l m_X7_gather d 0 0 0 0 101 [(0, .ref b), (1, .ref a), (2, .int u), (3, .int v), (4, .int x_4), (5, .int x_5), (6, .int x_6), (7, .int x_7), (8, .int x_8)] [] (put (put w b 7 (shP b y_0)) a 19 (shS a s)) (fun r w2 => ∃ (z0 : RT), r = none ∧ w2 = put (put w b 7 (shP b z0)) a 19 (shS a s) ∧ K z0)) (x_4 : Int32) (x_5 : Int32) (x_6 : Int32) (x_7 : Int32) (x_8 : Int32) (t_0 : Int32) (t_1 : Int32) (y_0 : RT) (hQ : jp_X7_gather_164 s u v K k_54 k_101 x_4 x_5 x_6 x_7 x_8 t_0 t_1 y_0) : X G l m_X7_gather d 0 0 0 0 164 [(0, .ref b), (1, .ref a), (2, .int u), (3, .int v), (4, .int x_4), (5, .int x_5), (6, .int x_6), (7, .int x_7), (8, .int x_8)] [.int t_0, .int t_1, .ref (b + 1)] (put (put w b 7 (shP b y_0)) a 19 (shS a s)) (fun r w2 => ∃ (z0 : RT), r = none ∧ w2 = put (put w b 7 (shP b z0)) a 19 (shS a s) ∧ K z0) := by
  refine x_invSN (rest := []) (d' := d - 1) (mc' := 0) (ms' := 0) [.ref (b + 1), .int t_1, .int t_0] "LagSolver" k_X9_put lk_X7_72 rfl rfl (Nat.le_of_ble_eq_true rfl) (by omega) (Nat.le_refl _) (Nat.le_refl _) d_X7_gather_164 ((spa_X9_put (d := d - 1) (by omega) (put_out (by omega) gP_1) hQ).mono (fun r w2 hr => ?_))
  obtain ⟨f31, rfl, rfl, hQ⟩ := hr
  obtain ⟨s32, e_s32⟩ : ∃ z : RT, z = rI y_0 1 f31 := ⟨_, rfl⟩
  have hQ := hQ s32 e_s32
  refine X.world (w2 := put (put w b 7 (shP b s32)) a 19 (shS a s)) (by rw [e_s32]; exact (hset_out (by omega) sP_1)) ?_
  refine x_sub [0, 1, 2, 3, 4, 5, 6, 7, 8] (lv2 := [(0, .ref b), (1, .ref a), (2, .int u), (3, .int v), (4, .int x_4), (5, .int x_5), (6, .int x_6), (7, .int x_7), (8, .int x_8)]) rfl ?_
  exact jt_X7_gather_167 hd hx_0_1 hk_54 hk_101 x_4 x_5 x_6 x_7 x_8 s32 hQ
def lp_X7_gather_101 (s : RT) (u : Int32) (v : Int32) (K : RT → Prop) (k_54 : Int32 → Int32 → RT → Prop) : Nat → Int32 → Int32 → Int32 → Int32 → Int32 → RT → Prop
  | 0, _, _, _, _, _, _ => False
  | n + 1, x_4, x_5, x_6, x_7, x_8, y_0 => (((3 : Int32) ≤ x_8 → ∀ x12 : Int32, x12 = x_5 + (1 : Int32) → k_54 x_4 x12 y_0) ∧ (¬ (3 : Int32) ≤ x_8 → wp_X9_pastOperand x_5 x_8 (fun (r13 : Int32) => wp_X9_hasBit x_4 r13 (fun (r14 : Int32) => ((r14 = (0 : Int32) → jp_X7_gather_167 s u v K k_54 (fun v0 v1 v2 v3 v4 v5 => lp_X7_gather_101 s u v K k_54 n v0 v1 v2 v3 v4 v5) x_4 x_5 x_6 x_7 x_8 y_0) ∧ (¬ r14 = (0 : Int32) → ((x_6 ≤ v → wp_X6_valueIn s x_7 x_8 x_6 (fun (r30 : Int32) => jp_X7_gather_164 s u v K k_54 (fun v0 v1 v2 v3 v4 v5 => lp_X7_gather_101 s u v K k_54 n v0 v1 v2 v3 v4 v5) x_4 x_5 x_6 x_7 x_8 r30 r13 y_0)) ∧ (¬ x_6 ≤ v → wp_X7_guessedValue y_0 s x_8 (x_6 - v) (u - v) (fun (r33 : Int32) => jp_X7_gather_164 s u v K k_54 (fun v0 v1 v2 v3 v4 v5 => lp_X7_gather_101 s u v K k_54 n v0 v1 v2 v3 v4 v5) x_4 x_5 x_6 x_7 x_8 r33 r13 y_0)))))))))
set_option maxHeartbeats 4000000 in
theorem jt_X7_gather_101 {G : GX} {l : Launch} {d : Nat} {w : HW} {a b : Nat} {s : RT} {u : Int32} {v : Int32} {K : RT → Prop} {k_54 : Int32 → Int32 → RT → Prop} (hd : 4 ≤ d) (hx_0_1 : b + 7 ≤ a ∨ a + 19 ≤ b) (hk_54 : ∀ (x_4 : Int32) (x_5 : Int32) (y_0 : RT), k_54 x_4 x_5 y_0 → X G l m_X7_gather d 0 0 0 0 54 [(0, .ref b), (1, .ref a), (2, .int u), (3, .int v), (4, .int x_4), (5, .int x_5)] [] (put (put w b 7 (shP b y_0)) a 19 (shS a s)) (fun r w2 => ∃ (z0 : RT), r = none ∧ w2 = put (put w b 7 (shP b z0)) a 19 (shS a s) ∧ K z0)) : ∀ (n : Nat) (x_4 : Int32) (x_5 : Int32) (x_6 : Int32) (x_7 : Int32) (x_8 : Int32) (y_0 : RT), lp_X7_gather_101 s u v K k_54 n x_4 x_5 x_6 x_7 x_8 y_0 → X G l m_X7_gather d 0 0 0 0 101 [(0, .ref b), (1, .ref a), (2, .int u), (3, .int v), (4, .int x_4), (5, .int x_5), (6, .int x_6), (7, .int x_7), (8, .int x_8)] [] (put (put w b 7 (shP b y_0)) a 19 (shS a s)) (fun r w2 => ∃ (z0 : RT), r = none ∧ w2 = put (put w b 7 (shP b z0)) a 19 (shS a s) ∧ K z0) := by
  intro n
  induction n with
  | zero =>
    intro x_4 x_5 x_6 x_7 x_8 y_0 hQ
    exact hQ.elim
  | succ n ih =>
    intro x_4 x_5 x_6 x_7 x_8 y_0 hQ
    refine x_iload 8 d_X7_gather_101 rfl ?_
    refine x_iconst (v := (3 : Int32)) d_X7_gather_103 (by decide) ?_
    refine x_icmp_ge (tgt := 229) d_X7_gather_104 (by decide) (fun c_104_11 => ?_) (fun c_104_11 => ?_)
    · have hQ := hQ.1 c_104_11
      obtain ⟨x12, e_x12⟩ : ∃ z : Int32, z = x_5 + (1 : Int32) := ⟨_, rfl⟩
      have hQ := hQ x12 e_x12
      refine x_iinc (v := x12) (lv2 := [(5, .int x12), (0, .ref b), (1, .ref a), (2, .int u), (3, .int v), (4, .int x_4), (6, .int x_6), (7, .int x_7), (8, .int x_8)]) 5 d_X7_gather_229 rfl (by rw [e_x12]; rfl) (by decide) rfl ?_
      refine x_goto (tgt := 54) d_X7_gather_232 (by decide) ?_
      refine x_sub [1, 2, 3, 4, 5, 0] (lv2 := [(0, .ref b), (1, .ref a), (2, .int u), (3, .int v), (4, .int x_4), (5, .int x12)]) rfl ?_
      exact hk_54 x_4 x12 y_0 hQ
    · have hQ := hQ.2 c_104_11
      refine x_iload 5 d_X7_gather_107 rfl ?_
      refine x_iload 8 d_X7_gather_109 rfl ?_
      refine x_invSN (rest := []) (d' := d - 1) (mc' := 0) (ms' := 0) [.int x_5, .int x_8] "LagSolver" k_X9_pastOperand lk_X7_132 rfl rfl (Nat.le_of_ble_eq_true rfl) (by omega) (Nat.le_refl _) (Nat.le_refl _) d_X7_gather_111 ((sp_X9_pastOperand (d := d - 1) (by omega) hQ).mono (fun r w2 hr => ?_))
      obtain ⟨r13, rfl, rfl, hQ⟩ := hr
      refine x_istore (lv2 := [(9, .int r13), (0, .ref b), (1, .ref a), (2, .int u), (3, .int v), (4, .int x_4), (5, .int x_5), (6, .int x_6), (7, .int x_7), (8, .int x_8)]) d_X7_gather_114 (by decide) rfl ?_
      refine x_iload 5 d_X7_gather_116 rfl ?_
      refine x_iload 0 d_X7_gather_118 rfl ?_
      refine x_invSN (rest := []) (d' := d - 1) (mc' := 0) (ms' := 0) [.int x_4, .int r13] "LagSolver" k_X9_hasBit lk_X7_135 rfl rfl (Nat.le_of_ble_eq_true rfl) (by omega) (Nat.le_refl _) (Nat.le_refl _) d_X7_gather_120 ((sp_X9_hasBit (d := d - 1) (by omega) hQ).mono (fun r w2 hr => ?_))
      obtain ⟨r14, rfl, rfl, hQ⟩ := hr
      refine x_if_eq (tgt := 167) d_X7_gather_123 (by decide) (fun c_123_15 => ?_) (fun c_123_15 => ?_)
      · have hQ := hQ.1 c_123_15
        refine x_sub [1, 2, 3, 4, 5, 6, 7, 8, 9] (lv2 := [(0, .ref b), (1, .ref a), (2, .int u), (3, .int v), (4, .int x_4), (5, .int x_5), (6, .int x_6), (7, .int x_7), (8, .int x_8)]) rfl ?_
        exact jt_X7_gather_167 hd hx_0_1 hk_54 ih x_4 x_5 x_6 x_7 x_8 y_0 hQ
      · have hQ := hQ.2 c_123_15
        refine x_aload_n 1 d_X7_gather_126 rfl rfl ?_
        refine x_getf 0 gf_X7_9 (put_out (by omega) gP_0) rfl d_X7_gather_127 ?_
        refine x_iload 0 d_X7_gather_130 rfl ?_
        refine x_iload 7 d_X7_gather_132 rfl ?_
        refine x_iload_n 4 d_X7_gather_134 rfl rfl ?_
        refine x_icmp_le (tgt := 154) d_X7_gather_135 (by decide) (fun c_135_29 => ?_) (fun c_135_29 => ?_)
        · have hQ := hQ.1 c_135_29
          refine x_aload_n 2 d_X7_gather_154 rfl rfl ?_
          refine x_iload 8 d_X7_gather_155 rfl ?_
          refine x_iload 9 d_X7_gather_157 rfl ?_
          refine x_iload 7 d_X7_gather_159 rfl ?_
          refine x_invV (rest := [.int r13, .ref (b + 1)]) (d' := d - 1) (mc' := 0) (ms' := 0) [.int x_7, .int x_8, .int x_6] k_X6_valueIn lk_X7_128 gS_0 rfl rfl rfl (Nat.le_of_ble_eq_true rfl) (by omega) (Nat.le_refl _) (Nat.le_refl _) d_X7_gather_161 ((sp_X6_valueIn (d := d - 1) (by omega) hQ).mono (fun r w2 hr => ?_))
          obtain ⟨r30, rfl, rfl, hQ⟩ := hr
          refine x_sub [1, 2, 3, 4, 5, 6, 7, 8, 9] (lv2 := [(0, .ref b), (1, .ref a), (2, .int u), (3, .int v), (4, .int x_4), (5, .int x_5), (6, .int x_6), (7, .int x_7), (8, .int x_8)]) rfl ?_
          exact jt_X7_gather_164 hd hx_0_1 hk_54 ih x_4 x_5 x_6 x_7 x_8 r30 r13 y_0 hQ
        · have hQ := hQ.2 c_135_29
          refine x_aload_n 1 d_X7_gather_138 rfl rfl ?_
          refine x_iload 9 d_X7_gather_139 rfl ?_
          refine x_iload 7 d_X7_gather_141 rfl ?_
          refine x_iload_n 4 d_X7_gather_143 rfl rfl ?_
          refine x_isub d_X7_gather_144 ?_
          refine x_iload_n 3 d_X7_gather_145 rfl rfl ?_
          refine x_iload_n 4 d_X7_gather_146 rfl rfl ?_
          refine x_isub d_X7_gather_147 ?_
          refine x_invV (rest := [.int r13, .ref (b + 1)]) (d' := d - 1) (mc' := 0) (ms' := 0) [.int x_8, .int (x_6 - v), .int (u - v)] k_X7_guessedValue lk_X7_138 (put_out (by omega) gP_0) rfl rfl rfl (Nat.le_of_ble_eq_true rfl) (by omega) (Nat.le_refl _) (Nat.le_refl _) d_X7_gather_148 ((sp_X7_guessedValue (d := d - 1) (by omega) (by omega) hQ).mono (fun r w2 hr => ?_))
          obtain ⟨r33, rfl, rfl, hQ⟩ := hr
          refine x_goto (tgt := 164) d_X7_gather_151 (by decide) ?_
          refine x_sub [1, 2, 3, 4, 5, 6, 7, 8, 9] (lv2 := [(0, .ref b), (1, .ref a), (2, .int u), (3, .int v), (4, .int x_4), (5, .int x_5), (6, .int x_6), (7, .int x_7), (8, .int x_8)]) rfl ?_
          exact jt_X7_gather_164 hd hx_0_1 hk_54 ih x_4 x_5 x_6 x_7 x_8 r33 r13 y_0 hQ
def lp_X7_gather_54 (s : RT) (u : Int32) (v : Int32) (K : RT → Prop) : Nat → Int32 → Int32 → RT → Prop
  | 0, _, _, _ => False
  | n + 1, x_4, x_5, y_0 => (((3 : Int32) ≤ x_5 → K y_0) ∧ (¬ (3 : Int32) ≤ x_5 → wp_X9_needsDelay x_4 x_5 (fun (r6 : Int32) => ((¬ r6 = (0 : Int32) → wp_X3_lagAt s x_5 u (fun (r8 : Int32) => ∀ x9 : Int32, x9 = u - r8 → wp_X4_stepTo s x9 (fun (r10 : Int32) => ∃ m : Nat, lp_X7_gather_101 s u v K (fun v0 v1 v2 => lp_X7_gather_54 s u v K n v0 v1 v2) m x_4 x_5 x9 r10 (0 : Int32) y_0))) ∧ (r6 = (0 : Int32) → ∀ x34 : Int32, x34 = x_5 + (1 : Int32) → lp_X7_gather_54 s u v K n x_4 x34 y_0)))))
set_option maxHeartbeats 4000000 in
theorem jt_X7_gather_54 {G : GX} {l : Launch} {d : Nat} {w : HW} {a b : Nat} {s : RT} {u : Int32} {v : Int32} {K : RT → Prop} (hd : 4 ≤ d) (hx_0_1 : b + 7 ≤ a ∨ a + 19 ≤ b) : ∀ (n : Nat) (x_4 : Int32) (x_5 : Int32) (y_0 : RT), lp_X7_gather_54 s u v K n x_4 x_5 y_0 → X G l m_X7_gather d 0 0 0 0 54 [(0, .ref b), (1, .ref a), (2, .int u), (3, .int v), (4, .int x_4), (5, .int x_5)] [] (put (put w b 7 (shP b y_0)) a 19 (shS a s)) (fun r w2 => ∃ (z0 : RT), r = none ∧ w2 = put (put w b 7 (shP b z0)) a 19 (shS a s) ∧ K z0) := by
  intro n
  induction n with
  | zero =>
    intro x_4 x_5 y_0 hQ
    exact hQ.elim
  | succ n ih =>
    intro x_4 x_5 y_0 hQ
    refine x_iload 5 d_X7_gather_54 rfl ?_
    refine x_iconst (v := (3 : Int32)) d_X7_gather_56 (by decide) ?_
    refine x_icmp_ge (tgt := 235) d_X7_gather_57 (by decide) (fun c_57_5 => ?_) (fun c_57_5 => ?_)
    · have hQ := hQ.1 c_57_5
      exact x_vret (retV d_X7_gather_235 rfl) ⟨_, rfl, rfl, hQ⟩
    · have hQ := hQ.2 c_57_5
      refine x_iload 4 d_X7_gather_60 rfl ?_
      refine x_iload 5 d_X7_gather_62 rfl ?_
      refine x_invSN (rest := []) (d' := d - 1) (mc' := 0) (ms' := 0) [.int x_4, .int x_5] "LagSolver" k_X9_needsDelay lk_X7_117 rfl rfl (Nat.le_of_ble_eq_true rfl) (by omega) (Nat.le_refl _) (Nat.le_refl _) d_X7_gather_64 ((sp_X9_needsDelay (d := d - 1) (by omega) hQ).mono (fun r w2 hr => ?_))
      obtain ⟨r6, rfl, rfl, hQ⟩ := hr
      refine x_if_ne (tgt := 73) d_X7_gather_67 (by decide) (fun c_67_7 => ?_) (fun c_67_7 => ?_)
      · have hQ := hQ.1 c_67_7
        refine x_iload_n 2 d_X7_gather_73 rfl rfl ?_
        refine x_aload_n 1 d_X7_gather_74 rfl rfl ?_
        refine x_getfN 1 gf_X7_108 gS_0 rfl d_X7_gather_75 ?_
        refine x_iload 5 d_X7_gather_78 rfl ?_
        refine x_iload_n 2 d_X7_gather_80 rfl rfl ?_
        refine x_invV (rest := [.int u]) (d' := d - 1) (mc' := 0) (ms' := 0) [.int x_5, .int u] k_X3_lagAt lk_X7_112 gS_5 rfl rfl rfl (Nat.le_of_ble_eq_true rfl) (by omega) (Nat.le_refl _) (Nat.le_refl _) d_X7_gather_81 ((sp_X3_lagAt (d := d - 1) (by omega) hQ).mono (fun r w2 hr => ?_))
        obtain ⟨r8, rfl, rfl, hQ⟩ := hr
        refine x_isub d_X7_gather_84 ?_
        refine x_topi (fun x9 e_x9 => ?_)
        have hQ := hQ x9 e_x9
        refine x_istore (lv2 := [(6, .int x9), (0, .ref b), (1, .ref a), (2, .int u), (3, .int v), (4, .int x_4), (5, .int x_5)]) d_X7_gather_85 (by decide) rfl ?_
        refine x_aload_n 2 d_X7_gather_87 rfl rfl ?_
        refine x_getfN 5 gf_X7_30 gS_0 rfl d_X7_gather_88 ?_
        refine x_iload 0 d_X7_gather_91 rfl ?_
        refine x_invV (rest := []) (d' := d - 1) (mc' := 0) (ms' := 0) [.int x9] k_X4_stepTo lk_X7_125 gS_17 rfl rfl rfl (Nat.le_of_ble_eq_true rfl) (by omega) (Nat.le_refl _) (Nat.le_refl _) d_X7_gather_93 ((sp_X4_stepTo (d := d - 1) (by omega) hQ).mono (fun r w2 hr => ?_))
        obtain ⟨r10, rfl, rfl, hQ⟩ := hr
        refine x_istore (lv2 := [(7, .int r10), (6, .int x9), (0, .ref b), (1, .ref a), (2, .int u), (3, .int v), (4, .int x_4), (5, .int x_5)]) d_X7_gather_96 (by decide) rfl ?_
        refine x_iconst (v := (0 : Int32)) d_X7_gather_98 (by decide) ?_
        refine x_istore (lv2 := [(8, .int (0 : Int32)), (7, .int r10), (6, .int x9), (0, .ref b), (1, .ref a), (2, .int u), (3, .int v), (4, .int x_4), (5, .int x_5)]) d_X7_gather_99 (by decide) rfl ?_
        refine x_sub [3, 4, 5, 6, 7, 8, 2, 1, 0] (lv2 := [(0, .ref b), (1, .ref a), (2, .int u), (3, .int v), (4, .int x_4), (5, .int x_5), (6, .int x9), (7, .int r10), (8, .int (0 : Int32))]) rfl ?_
        obtain ⟨m, hQ⟩ := hQ
        exact jt_X7_gather_101 hd hx_0_1 ih m x_4 x_5 x9 r10 (0 : Int32) y_0 hQ
      · have hQ := hQ.2 c_67_7
        refine x_goto (tgt := 229) d_X7_gather_70 (by decide) ?_
        obtain ⟨x34, e_x34⟩ : ∃ z : Int32, z = x_5 + (1 : Int32) := ⟨_, rfl⟩
        have hQ := hQ x34 e_x34
        refine x_iinc (v := x34) (lv2 := [(5, .int x34), (0, .ref b), (1, .ref a), (2, .int u), (3, .int v), (4, .int x_4)]) 5 d_X7_gather_229 rfl (by rw [e_x34]; rfl) (by decide) rfl ?_
        refine x_goto (tgt := 54) d_X7_gather_232 (by decide) ?_
        refine x_sub [1, 2, 3, 4, 5, 0] (lv2 := [(0, .ref b), (1, .ref a), (2, .int u), (3, .int v), (4, .int x_4), (5, .int x34)]) rfl ?_
        exact ih x_4 x34 y_0 hQ
def lp_X7_gather_21 (s : RT) (u : Int32) (v : Int32) (K : RT → Prop) : Nat → Int32 → Int32 → RT → Prop
  | 0, _, _, _ => False
  | n + 1, x_4, x_5, y_0 => (((3 : Int32) ≤ x_5 → ∃ m : Nat, lp_X7_gather_54 s u v K m x_4 (0 : Int32) y_0) ∧ (¬ (3 : Int32) ≤ x_5 → wp_X9_pick 3 (y_0.1 4) x_5 (fun (r35 : Int32) => wp_X9_put 22 (y_0.1 1) x_5 r35 (fun (f36 : Nat → Int32) => ∀ s37 : RT, s37 = rI y_0 1 f36 → ∀ x38 : Int32, x38 = x_5 + (1 : Int32) → lp_X7_gather_21 s u v K n x_4 x38 s37))))
set_option maxHeartbeats 4000000 in
theorem jt_X7_gather_21 {G : GX} {l : Launch} {d : Nat} {w : HW} {a b : Nat} {s : RT} {u : Int32} {v : Int32} {K : RT → Prop} (hd : 4 ≤ d) (hx_0_1 : b + 7 ≤ a ∨ a + 19 ≤ b) : ∀ (n : Nat) (x_4 : Int32) (x_5 : Int32) (y_0 : RT), lp_X7_gather_21 s u v K n x_4 x_5 y_0 → X G l m_X7_gather d 0 0 0 0 21 [(0, .ref b), (1, .ref a), (2, .int u), (3, .int v), (4, .int x_4), (5, .int x_5)] [] (put (put w b 7 (shP b y_0)) a 19 (shS a s)) (fun r w2 => ∃ (z0 : RT), r = none ∧ w2 = put (put w b 7 (shP b z0)) a 19 (shS a s) ∧ K z0) := by
  intro n
  induction n with
  | zero =>
    intro x_4 x_5 y_0 hQ
    exact hQ.elim
  | succ n ih =>
    intro x_4 x_5 y_0 hQ
    refine x_iload 5 d_X7_gather_21 rfl ?_
    refine x_iconst (v := (3 : Int32)) d_X7_gather_23 (by decide) ?_
    refine x_icmp_ge (tgt := 51) d_X7_gather_24 (by decide) (fun c_24_4 => ?_) (fun c_24_4 => ?_)
    · have hQ := hQ.1 c_24_4
      refine x_iconst (v := (0 : Int32)) d_X7_gather_51 (by decide) ?_
      refine x_istore (lv2 := [(5, .int (0 : Int32)), (0, .ref b), (1, .ref a), (2, .int u), (3, .int v), (4, .int x_4)]) d_X7_gather_52 (by decide) rfl ?_
      refine x_sub [1, 2, 3, 4, 5, 0] (lv2 := [(0, .ref b), (1, .ref a), (2, .int u), (3, .int v), (4, .int x_4), (5, .int (0 : Int32))]) rfl ?_
      obtain ⟨m, hQ⟩ := hQ
      exact jt_X7_gather_54 hd hx_0_1 m x_4 (0 : Int32) y_0 hQ
    · have hQ := hQ.2 c_24_4
      refine x_aload_n 0 d_X7_gather_27 rfl rfl ?_
      refine x_getf 0 gf_X7_9 (put_out (by omega) gP_0) rfl d_X7_gather_28 ?_
      refine x_iload 5 d_X7_gather_31 rfl ?_
      refine x_aload_n 0 d_X7_gather_33 rfl rfl ?_
      refine x_getf 3 gf_X7_21 (put_out (by omega) gP_0) rfl d_X7_gather_34 ?_
      refine x_iload 5 d_X7_gather_37 rfl ?_
      refine x_invSN (rest := [.int x_5, .ref (b + 1)]) (d' := d - 1) (mc' := 0) (ms' := 0) [.ref (b + 4), .int x_5] "LagSolver" k_X9_pick lk_X7_61 rfl rfl (Nat.le_of_ble_eq_true rfl) (by omega) (Nat.le_refl _) (Nat.le_refl _) d_X7_gather_39 ((sp_X9_pick (d := d - 1) (by omega) (put_out (by omega) gP_4) hQ).mono (fun r w2 hr => ?_))
      obtain ⟨r35, rfl, rfl, hQ⟩ := hr
      refine x_invSN (rest := []) (d' := d - 1) (mc' := 0) (ms' := 0) [.ref (b + 1), .int x_5, .int r35] "LagSolver" k_X9_put lk_X7_72 rfl rfl (Nat.le_of_ble_eq_true rfl) (by omega) (Nat.le_refl _) (Nat.le_refl _) d_X7_gather_42 ((spa_X9_put (d := d - 1) (by omega) (put_out (by omega) gP_1) hQ).mono (fun r w2 hr => ?_))
      obtain ⟨f36, rfl, rfl, hQ⟩ := hr
      obtain ⟨s37, e_s37⟩ : ∃ z : RT, z = rI y_0 1 f36 := ⟨_, rfl⟩
      have hQ := hQ s37 e_s37
      refine X.world (w2 := put (put w b 7 (shP b s37)) a 19 (shS a s)) (by rw [e_s37]; exact (hset_out (by omega) sP_1)) ?_
      obtain ⟨x38, e_x38⟩ : ∃ z : Int32, z = x_5 + (1 : Int32) := ⟨_, rfl⟩
      have hQ := hQ x38 e_x38
      refine x_iinc (v := x38) (lv2 := [(5, .int x38), (0, .ref b), (1, .ref a), (2, .int u), (3, .int v), (4, .int x_4)]) 5 d_X7_gather_45 rfl (by rw [e_x38]; rfl) (by decide) rfl ?_
      refine x_goto (tgt := 21) d_X7_gather_48 (by decide) ?_
      refine x_sub [1, 2, 3, 4, 5, 0] (lv2 := [(0, .ref b), (1, .ref a), (2, .int u), (3, .int v), (4, .int x_4), (5, .int x38)]) rfl ?_
      exact ih x_4 x38 s37 hQ
def wp_X7_gather (p : RT) (s : RT) (u : Int32) (v : Int32) (K : RT → Prop) : Prop := wp_X5_allOperands s (fun (r1 : Int32) => wp_X9_put 22 (p.1 1) (3 : Int32) u (fun (f2 : Nat → Int32) => ∀ s3 : RT, s3 = rI p 1 f2 → ∃ m : Nat, lp_X7_gather_21 s u v K m r1 (0 : Int32) s3))
set_option maxHeartbeats 4000000 in
theorem sp_X7_gather {G : GX} {l : Launch} {d : Nat} {w : HW} {a b : Nat} {p : RT} {s : RT} {u : Int32} {v : Int32} {K : RT → Prop} (hd : 4 ≤ d) (hx_0_1 : b + 7 ≤ a ∨ a + 19 ≤ b) (hQ : wp_X7_gather p s u v K) : Sp G l m_X7_gather d 0 0 [.ref b, .ref a, .int u, .int v] (put (put w b 7 (shP b p)) a 19 (shS a s)) (fun r w2 => ∃ (z0 : RT), r = none ∧ w2 = put (put w b 7 (shP b z0)) a 19 (shS a s) ∧ K z0) := by
  refine Sp.ofX k_X7_gather.1.1 (Nat.le_of_ble_eq_true rfl) ?_
  refine X.lv (lv2 := [(0, .ref b), (1, .ref a), (2, .int u), (3, .int v)]) rfl ?_
  refine x_aload_n 1 d_X7_gather_0 rfl rfl ?_
  refine x_getfN 0 gf_X7_99 gS_0 rfl d_X7_gather_1 ?_
  refine x_invV (rest := []) (d' := d - 1) (mc' := 0) (ms' := 0) [] k_X5_allOperands lk_X7_103 gS_1 rfl rfl rfl (Nat.le_of_ble_eq_true rfl) (by omega) (Nat.le_refl _) (Nat.le_refl _) d_X7_gather_4 ((sp_X5_allOperands (d := d - 1) (by omega) hQ).mono (fun r w2 hr => ?_))
  obtain ⟨r1, rfl, rfl, hQ⟩ := hr
  refine x_istore (lv2 := [(4, .int r1), (0, .ref b), (1, .ref a), (2, .int u), (3, .int v)]) d_X7_gather_7 (by decide) rfl ?_
  refine x_aload_n 1 d_X7_gather_9 rfl rfl ?_
  refine x_getf 0 gf_X7_9 (put_out (by omega) gP_0) rfl d_X7_gather_10 ?_
  refine x_iconst (v := (3 : Int32)) d_X7_gather_13 (by decide) ?_
  refine x_iload_n 3 d_X7_gather_14 rfl rfl ?_
  refine x_invSN (rest := []) (d' := d - 1) (mc' := 0) (ms' := 0) [.ref (b + 1), .int (3 : Int32), .int u] "LagSolver" k_X9_put lk_X7_72 rfl rfl (Nat.le_of_ble_eq_true rfl) (by omega) (Nat.le_refl _) (Nat.le_refl _) d_X7_gather_15 ((spa_X9_put (d := d - 1) (by omega) (put_out (by omega) gP_1) hQ).mono (fun r w2 hr => ?_))
  obtain ⟨f2, rfl, rfl, hQ⟩ := hr
  obtain ⟨s3, e_s3⟩ : ∃ z : RT, z = rI p 1 f2 := ⟨_, rfl⟩
  have hQ := hQ s3 e_s3
  refine X.world (w2 := put (put w b 7 (shP b s3)) a 19 (shS a s)) (by rw [e_s3]; exact (hset_out (by omega) sP_1)) ?_
  refine x_iconst (v := (0 : Int32)) d_X7_gather_18 (by decide) ?_
  refine x_istore (lv2 := [(5, .int (0 : Int32)), (4, .int r1), (0, .ref b), (1, .ref a), (2, .int u), (3, .int v)]) d_X7_gather_19 (by decide) rfl ?_
  refine x_sub [2, 3, 4, 5, 1, 0] (lv2 := [(0, .ref b), (1, .ref a), (2, .int u), (3, .int v), (4, .int r1), (5, .int (0 : Int32))]) rfl ?_
  obtain ⟨m, hQ⟩ := hQ
  exact jt_X7_gather_21 hd hx_0_1 m r1 (0 : Int32) s3 hQ
def lp_X7_hasShortLag_11 (p : RT) (s : RT) (u : Int32) (x : Int32) (K : Int32 → Prop) : Nat → Int32 → Int32 → Prop
  | 0, _, _ => False
  | n + 1, x_3, x_4 => (((3 : Int32) ≤ x_4 → K (0 : Int32)) ∧ (¬ (3 : Int32) ≤ x_4 → wp_X3_lagAt s x_4 u (fun (r3 : Int32) => wp_X9_needsDelay x_3 x_4 (fun (r4 : Int32) => ((r4 = (0 : Int32) → ∀ x6 : Int32, x6 = x_4 + (1 : Int32) → lp_X7_hasShortLag_11 p s u x K n x_3 x6) ∧ (¬ r4 = (0 : Int32) → ((r3 = (0 : Int32) → ∀ x8 : Int32, x8 = x_4 + (1 : Int32) → lp_X7_hasShortLag_11 p s u x K n x_3 x8) ∧ (¬ r3 = (0 : Int32) → ((x ≤ r3 → ∀ x10 : Int32, x10 = x_4 + (1 : Int32) → lp_X7_hasShortLag_11 p s u x K n x_3 x10) ∧ (¬ x ≤ r3 → K (1 : Int32)))))))))))
set_option maxHeartbeats 4000000 in
theorem jt_X7_hasShortLag_11 {G : GX} {l : Launch} {d : Nat} {w : HW} {a b : Nat} {p : RT} {s : RT} {u : Int32} {x : Int32} {K : Int32 → Prop} (hd : 2 ≤ d) (hx_0_1 : b + 7 ≤ a ∨ a + 19 ≤ b) : ∀ (n : Nat) (x_3 : Int32) (x_4 : Int32), lp_X7_hasShortLag_11 p s u x K n x_3 x_4 → X G l m_X7_hasShortLag d 0 0 0 0 11 [(0, .ref a), (1, .int u), (2, .int x), (3, .int x_3), (4, .int x_4)] [] (put (put w b 7 (shP b p)) a 19 (shS a s)) (fun r w2 => ∃ (r1 : Int32), r = some (.int r1) ∧ w2 = put (put w b 7 (shP b p)) a 19 (shS a s) ∧ K r1) := by
  intro n
  induction n with
  | zero =>
    intro x_3 x_4 hQ
    exact hQ.elim
  | succ n ih =>
    intro x_3 x_4 hQ
    refine x_iload 4 d_X7_hasShortLag_11 rfl ?_
    refine x_iconst (v := (3 : Int32)) d_X7_hasShortLag_13 (by decide) ?_
    refine x_icmp_ge (tgt := 57) d_X7_hasShortLag_14 (by decide) (fun c_14_2 => ?_) (fun c_14_2 => ?_)
    · have hQ := hQ.1 c_14_2
      refine x_iconst (v := (0 : Int32)) d_X7_hasShortLag_57 (by decide) ?_
      exact x_iret (retB d_X7_hasShortLag_58 rfl rfl) ⟨_, rfl, rfl, hQ⟩
    · have hQ := hQ.2 c_14_2
      refine x_aload_n 0 d_X7_hasShortLag_17 rfl rfl ?_
      refine x_getfN 1 gf_X7_108 gS_0 rfl d_X7_hasShortLag_18 ?_
      refine x_iload 4 d_X7_hasShortLag_21 rfl ?_
      refine x_iload_n 1 d_X7_hasShortLag_23 rfl rfl ?_
      refine x_invV (rest := []) (d' := d - 1) (mc' := 0) (ms' := 0) [.int x_4, .int u] k_X3_lagAt lk_X7_112 gS_5 rfl rfl rfl (Nat.le_of_ble_eq_true rfl) (by omega) (Nat.le_refl _) (Nat.le_refl _) d_X7_hasShortLag_24 ((sp_X3_lagAt (d := d - 1) (by omega) hQ).mono (fun r w2 hr => ?_))
      obtain ⟨r3, rfl, rfl, hQ⟩ := hr
      refine x_istore (lv2 := [(5, .int r3), (0, .ref a), (1, .int u), (2, .int x), (3, .int x_3), (4, .int x_4)]) d_X7_hasShortLag_27 (by decide) rfl ?_
      refine x_iload_n 4 d_X7_hasShortLag_29 rfl rfl ?_
      refine x_iload 5 d_X7_hasShortLag_30 rfl ?_
      refine x_invSN (rest := []) (d' := d - 1) (mc' := 0) (ms' := 0) [.int x_3, .int x_4] "LagSolver" k_X9_needsDelay lk_X7_117 rfl rfl (Nat.le_of_ble_eq_true rfl) (by omega) (Nat.le_refl _) (Nat.le_refl _) d_X7_hasShortLag_32 ((sp_X9_needsDelay (d := d - 1) (by omega) hQ).mono (fun r w2 hr => ?_))
      obtain ⟨r4, rfl, rfl, hQ⟩ := hr
      refine x_if_eq (tgt := 51) d_X7_hasShortLag_35 (by decide) (fun c_35_5 => ?_) (fun c_35_5 => ?_)
      · have hQ := hQ.1 c_35_5
        obtain ⟨x6, e_x6⟩ : ∃ z : Int32, z = x_4 + (1 : Int32) := ⟨_, rfl⟩
        have hQ := hQ x6 e_x6
        refine x_iinc (v := x6) (lv2 := [(4, .int x6), (5, .int r3), (0, .ref a), (1, .int u), (2, .int x), (3, .int x_3)]) 5 d_X7_hasShortLag_51 rfl (by rw [e_x6]; rfl) (by decide) rfl ?_
        refine x_goto (tgt := 11) d_X7_hasShortLag_54 (by decide) ?_
        refine x_sub [2, 3, 4, 5, 0] (lv2 := [(0, .ref a), (1, .int u), (2, .int x), (3, .int x_3), (4, .int x6)]) rfl ?_
        exact ih x_3 x6 hQ
      · have hQ := hQ.2 c_35_5
        refine x_iload 0 d_X7_hasShortLag_38 rfl ?_
        refine x_if_eq (tgt := 51) d_X7_hasShortLag_40 (by decide) (fun c_40_7 => ?_) (fun c_40_7 => ?_)
        · have hQ := hQ.1 c_40_7
          obtain ⟨x8, e_x8⟩ : ∃ z : Int32, z = x_4 + (1 : Int32) := ⟨_, rfl⟩
          have hQ := hQ x8 e_x8
          refine x_iinc (v := x8) (lv2 := [(4, .int x8), (5, .int r3), (0, .ref a), (1, .int u), (2, .int x), (3, .int x_3)]) 5 d_X7_hasShortLag_51 rfl (by rw [e_x8]; rfl) (by decide) rfl ?_
          refine x_goto (tgt := 11) d_X7_hasShortLag_54 (by decide) ?_
          refine x_sub [2, 3, 4, 5, 0] (lv2 := [(0, .ref a), (1, .int u), (2, .int x), (3, .int x_3), (4, .int x8)]) rfl ?_
          exact ih x_3 x8 hQ
        · have hQ := hQ.2 c_40_7
          refine x_iload 0 d_X7_hasShortLag_43 rfl ?_
          refine x_iload_n 3 d_X7_hasShortLag_45 rfl rfl ?_
          refine x_icmp_ge (tgt := 51) d_X7_hasShortLag_46 (by decide) (fun c_46_9 => ?_) (fun c_46_9 => ?_)
          · have hQ := hQ.1 c_46_9
            obtain ⟨x10, e_x10⟩ : ∃ z : Int32, z = x_4 + (1 : Int32) := ⟨_, rfl⟩
            have hQ := hQ x10 e_x10
            refine x_iinc (v := x10) (lv2 := [(4, .int x10), (5, .int r3), (0, .ref a), (1, .int u), (2, .int x), (3, .int x_3)]) 5 d_X7_hasShortLag_51 rfl (by rw [e_x10]; rfl) (by decide) rfl ?_
            refine x_goto (tgt := 11) d_X7_hasShortLag_54 (by decide) ?_
            refine x_sub [2, 3, 4, 5, 0] (lv2 := [(0, .ref a), (1, .int u), (2, .int x), (3, .int x_3), (4, .int x10)]) rfl ?_
            exact ih x_3 x10 hQ
          · have hQ := hQ.2 c_46_9
            refine x_iconst (v := (1 : Int32)) d_X7_hasShortLag_49 (by decide) ?_
            exact x_iret (retB d_X7_hasShortLag_50 rfl rfl) ⟨_, rfl, rfl, hQ⟩
def wp_X7_hasShortLag (p : RT) (s : RT) (u : Int32) (x : Int32) (K : Int32 → Prop) : Prop := wp_X5_allOperands s (fun (r1 : Int32) => ∃ m : Nat, lp_X7_hasShortLag_11 p s u x K m r1 (0 : Int32))
set_option maxHeartbeats 4000000 in
theorem sp_X7_hasShortLag {G : GX} {l : Launch} {d : Nat} {w : HW} {a b : Nat} {p : RT} {s : RT} {u : Int32} {x : Int32} {K : Int32 → Prop} (hd : 2 ≤ d) (hx_0_1 : b + 7 ≤ a ∨ a + 19 ≤ b) (hQ : wp_X7_hasShortLag p s u x K) : Sp G l m_X7_hasShortLag d 0 0 [.ref a, .int u, .int x] (put (put w b 7 (shP b p)) a 19 (shS a s)) (fun r w2 => ∃ (r1 : Int32), r = some (.int r1) ∧ w2 = put (put w b 7 (shP b p)) a 19 (shS a s) ∧ K r1) := by
  refine Sp.ofX k_X7_hasShortLag.1.1 (Nat.le_of_ble_eq_true rfl) ?_
  refine X.lv (lv2 := [(0, .ref a), (1, .int u), (2, .int x)]) rfl ?_
  refine x_aload_n 0 d_X7_hasShortLag_0 rfl rfl ?_
  refine x_getfN 0 gf_X7_99 gS_0 rfl d_X7_hasShortLag_1 ?_
  refine x_invV (rest := []) (d' := d - 1) (mc' := 0) (ms' := 0) [] k_X5_allOperands lk_X7_103 gS_1 rfl rfl rfl (Nat.le_of_ble_eq_true rfl) (by omega) (Nat.le_refl _) (Nat.le_refl _) d_X7_hasShortLag_4 ((sp_X5_allOperands (d := d - 1) (by omega) hQ).mono (fun r w2 hr => ?_))
  obtain ⟨r1, rfl, rfl, hQ⟩ := hr
  refine x_istore_n (lv2 := [(3, .int r1), (0, .ref a), (1, .int u), (2, .int x)]) d_X7_hasShortLag_7 rfl (by decide) rfl ?_
  refine x_iconst (v := (0 : Int32)) d_X7_hasShortLag_8 (by decide) ?_
  refine x_istore (lv2 := [(4, .int (0 : Int32)), (3, .int r1), (0, .ref a), (1, .int u), (2, .int x)]) d_X7_hasShortLag_9 (by decide) rfl ?_
  refine x_sub [2, 3, 4, 1, 0] (lv2 := [(0, .ref a), (1, .int u), (2, .int x), (3, .int r1), (4, .int (0 : Int32))]) rfl ?_
  obtain ⟨m, hQ⟩ := hQ
  exact jt_X7_hasShortLag_11 hd hx_0_1 m r1 (0 : Int32) hQ
def lp_X7_workOutSlopes_5_2 (s : RT) (K : RT → Prop) : Nat → Int32 → RT → Prop
  | 0, _, _ => False
  | n + 1, x_3, y_0 => (((3 : Int32) ≤ x_3 → K y_0) ∧ (¬ (3 : Int32) ≤ x_3 → wp_X5_workOut y_0 s x_3 (fun (r2 : Int32) (s3 : RT) => wp_X9_put 3 (s3.1 5) x_3 r2 (fun (f4 : Nat → Int32) => ∀ s5 : RT, s5 = rI s3 5 f4 → ∀ x6 : Int32, x6 = x_3 + (1 : Int32) → lp_X7_workOutSlopes_5_2 s K n x6 s5))))
set_option maxHeartbeats 4000000 in
theorem jt_X7_workOutSlopes_5_2 {G : GX} {l : Launch} {d : Nat} {w : HW} {a b : Nat} {s : RT} {K : RT → Prop} (hd : 3 ≤ d) (hx_0_1 : b + 7 ≤ a ∨ a + 19 ≤ b) : ∀ (n : Nat) (x_3 : Int32) (y_0 : RT), lp_X7_workOutSlopes_5_2 s K n x_3 y_0 → X G l m_X7_workOutSlopes d 0 0 0 0 2 [(0, .ref b), (1, .ref a), (2, .ref (b + 5)), (3, .int x_3)] [] (put (put w b 7 (shP b y_0)) a 19 (shS a s)) (fun r w2 => ∃ (z0 : RT), r = none ∧ w2 = put (put w b 7 (shP b z0)) a 19 (shS a s) ∧ K z0) := by
  intro n
  induction n with
  | zero =>
    intro x_3 y_0 hQ
    exact hQ.elim
  | succ n ih =>
    intro x_3 y_0 hQ
    refine x_iload_n 3 d_X7_workOutSlopes_2 rfl rfl ?_
    refine x_iconst (v := (3 : Int32)) d_X7_workOutSlopes_3 (by decide) ?_
    refine x_icmp_ge (tgt := 34) d_X7_workOutSlopes_4 (by decide) (fun c_4_1 => ?_) (fun c_4_1 => ?_)
    · have hQ := hQ.1 c_4_1
      exact x_vret (retV d_X7_workOutSlopes_34 rfl) ⟨_, rfl, rfl, hQ⟩
    · have hQ := hQ.2 c_4_1
      refine x_aload_n 2 d_X7_workOutSlopes_7 rfl rfl ?_
      refine x_iload_n 3 d_X7_workOutSlopes_8 rfl rfl ?_
      refine x_aload_n 1 d_X7_workOutSlopes_9 rfl rfl ?_
      refine x_getfN 0 gf_X7_99 gS_0 rfl d_X7_workOutSlopes_10 ?_
      refine x_iload_n 3 d_X7_workOutSlopes_13 rfl rfl ?_
      refine x_aload_n 0 d_X7_workOutSlopes_14 rfl rfl ?_
      refine x_getf 0 gf_X7_9 (put_out (by omega) gP_0) rfl d_X7_workOutSlopes_15 ?_
      refine x_aload_n 0 d_X7_workOutSlopes_18 rfl rfl ?_
      refine x_getf 1 gf_X7_15 (put_out (by omega) gP_0) rfl d_X7_workOutSlopes_19 ?_
      refine x_invV (rest := [.int x_3, .ref (b + 5)]) (d' := d - 1) (mc' := 0) (ms' := 0) [.int x_3, .ref (b + 1), .ref (b + 2)] k_X5_workOut lk_X7_121 gS_1 rfl rfl rfl (Nat.le_of_ble_eq_true rfl) (by omega) (Nat.le_refl _) (Nat.le_refl _) d_X7_workOutSlopes_22 ((sp_X5_workOut (d := d - 1) (by omega) (by omega) hQ).mono (fun r w2 hr => ?_))
      obtain ⟨r2, s3, rfl, rfl, hQ⟩ := hr
      refine x_invSN (rest := []) (d' := d - 1) (mc' := 0) (ms' := 0) [.ref (b + 5), .int x_3, .int r2] "LagSolver" k_X9_put lk_X7_72 rfl rfl (Nat.le_of_ble_eq_true rfl) (by omega) (Nat.le_refl _) (Nat.le_refl _) d_X7_workOutSlopes_25 ((spa_X9_put (d := d - 1) (by omega) (put_out (by omega) gP_5) hQ).mono (fun r w2 hr => ?_))
      obtain ⟨f4, rfl, rfl, hQ⟩ := hr
      obtain ⟨s5, e_s5⟩ : ∃ z : RT, z = rI s3 5 f4 := ⟨_, rfl⟩
      have hQ := hQ s5 e_s5
      refine X.world (w2 := put (put w b 7 (shP b s5)) a 19 (shS a s)) (by rw [e_s5]; exact (hset_out (by omega) sP_5)) ?_
      obtain ⟨x6, e_x6⟩ : ∃ z : Int32, z = x_3 + (1 : Int32) := ⟨_, rfl⟩
      have hQ := hQ x6 e_x6
      refine x_iinc (v := x6) (lv2 := [(3, .int x6), (0, .ref b), (1, .ref a), (2, .ref (b + 5))]) 3 d_X7_workOutSlopes_28 rfl (by rw [e_x6]; rfl) (by decide) rfl ?_
      refine x_goto (tgt := 2) d_X7_workOutSlopes_31 (by decide) ?_
      refine x_sub [1, 2, 3, 0] (lv2 := [(0, .ref b), (1, .ref a), (2, .ref (b + 5)), (3, .int x6)]) rfl ?_
      exact ih x6 s5 hQ
def wp_X7_workOutSlopes_5 (p : RT) (s : RT) (K : RT → Prop) : Prop := ∃ m : Nat, lp_X7_workOutSlopes_5_2 s K m (0 : Int32) p
set_option maxHeartbeats 4000000 in
theorem sp_X7_workOutSlopes_5 {G : GX} {l : Launch} {d : Nat} {w : HW} {a b : Nat} {p : RT} {s : RT} {K : RT → Prop} (hd : 3 ≤ d) (hx_0_1 : b + 7 ≤ a ∨ a + 19 ≤ b) (hQ : wp_X7_workOutSlopes_5 p s K) : Sp G l m_X7_workOutSlopes d 0 0 [.ref b, .ref a, .ref (b + 5)] (put (put w b 7 (shP b p)) a 19 (shS a s)) (fun r w2 => ∃ (z0 : RT), r = none ∧ w2 = put (put w b 7 (shP b z0)) a 19 (shS a s) ∧ K z0) := by
  refine Sp.ofX k_X7_workOutSlopes.1.1 (Nat.le_of_ble_eq_true rfl) ?_
  refine X.lv (lv2 := [(0, .ref b), (1, .ref a), (2, .ref (b + 5))]) rfl ?_
  refine x_iconst (v := (0 : Int32)) d_X7_workOutSlopes_0 (by decide) ?_
  refine x_istore_n (lv2 := [(3, .int (0 : Int32)), (0, .ref b), (1, .ref a), (2, .ref (b + 5))]) d_X7_workOutSlopes_1 rfl (by decide) rfl ?_
  refine x_sub [1, 2, 3, 0] (lv2 := [(0, .ref b), (1, .ref a), (2, .ref (b + 5)), (3, .int (0 : Int32))]) rfl ?_
  obtain ⟨m, hQ⟩ := hQ
  exact jt_X7_workOutSlopes_5_2 hd hx_0_1 m (0 : Int32) p hQ
def lp_X7_workOutSlopes_6_2 (s : RT) (K : RT → Prop) : Nat → Int32 → RT → Prop
  | 0, _, _ => False
  | n + 1, x_3, y_0 => (((3 : Int32) ≤ x_3 → K y_0) ∧ (¬ (3 : Int32) ≤ x_3 → wp_X5_workOut y_0 s x_3 (fun (r2 : Int32) (s3 : RT) => wp_X9_put 3 (s3.1 6) x_3 r2 (fun (f4 : Nat → Int32) => ∀ s5 : RT, s5 = rI s3 6 f4 → ∀ x6 : Int32, x6 = x_3 + (1 : Int32) → lp_X7_workOutSlopes_6_2 s K n x6 s5))))
set_option maxHeartbeats 4000000 in
theorem jt_X7_workOutSlopes_6_2 {G : GX} {l : Launch} {d : Nat} {w : HW} {a b : Nat} {s : RT} {K : RT → Prop} (hd : 3 ≤ d) (hx_0_1 : b + 7 ≤ a ∨ a + 19 ≤ b) : ∀ (n : Nat) (x_3 : Int32) (y_0 : RT), lp_X7_workOutSlopes_6_2 s K n x_3 y_0 → X G l m_X7_workOutSlopes d 0 0 0 0 2 [(0, .ref b), (1, .ref a), (2, .ref (b + 6)), (3, .int x_3)] [] (put (put w b 7 (shP b y_0)) a 19 (shS a s)) (fun r w2 => ∃ (z0 : RT), r = none ∧ w2 = put (put w b 7 (shP b z0)) a 19 (shS a s) ∧ K z0) := by
  intro n
  induction n with
  | zero =>
    intro x_3 y_0 hQ
    exact hQ.elim
  | succ n ih =>
    intro x_3 y_0 hQ
    refine x_iload_n 3 d_X7_workOutSlopes_2 rfl rfl ?_
    refine x_iconst (v := (3 : Int32)) d_X7_workOutSlopes_3 (by decide) ?_
    refine x_icmp_ge (tgt := 34) d_X7_workOutSlopes_4 (by decide) (fun c_4_1 => ?_) (fun c_4_1 => ?_)
    · have hQ := hQ.1 c_4_1
      exact x_vret (retV d_X7_workOutSlopes_34 rfl) ⟨_, rfl, rfl, hQ⟩
    · have hQ := hQ.2 c_4_1
      refine x_aload_n 2 d_X7_workOutSlopes_7 rfl rfl ?_
      refine x_iload_n 3 d_X7_workOutSlopes_8 rfl rfl ?_
      refine x_aload_n 1 d_X7_workOutSlopes_9 rfl rfl ?_
      refine x_getfN 0 gf_X7_99 gS_0 rfl d_X7_workOutSlopes_10 ?_
      refine x_iload_n 3 d_X7_workOutSlopes_13 rfl rfl ?_
      refine x_aload_n 0 d_X7_workOutSlopes_14 rfl rfl ?_
      refine x_getf 0 gf_X7_9 (put_out (by omega) gP_0) rfl d_X7_workOutSlopes_15 ?_
      refine x_aload_n 0 d_X7_workOutSlopes_18 rfl rfl ?_
      refine x_getf 1 gf_X7_15 (put_out (by omega) gP_0) rfl d_X7_workOutSlopes_19 ?_
      refine x_invV (rest := [.int x_3, .ref (b + 6)]) (d' := d - 1) (mc' := 0) (ms' := 0) [.int x_3, .ref (b + 1), .ref (b + 2)] k_X5_workOut lk_X7_121 gS_1 rfl rfl rfl (Nat.le_of_ble_eq_true rfl) (by omega) (Nat.le_refl _) (Nat.le_refl _) d_X7_workOutSlopes_22 ((sp_X5_workOut (d := d - 1) (by omega) (by omega) hQ).mono (fun r w2 hr => ?_))
      obtain ⟨r2, s3, rfl, rfl, hQ⟩ := hr
      refine x_invSN (rest := []) (d' := d - 1) (mc' := 0) (ms' := 0) [.ref (b + 6), .int x_3, .int r2] "LagSolver" k_X9_put lk_X7_72 rfl rfl (Nat.le_of_ble_eq_true rfl) (by omega) (Nat.le_refl _) (Nat.le_refl _) d_X7_workOutSlopes_25 ((spa_X9_put (d := d - 1) (by omega) (put_out (by omega) gP_6) hQ).mono (fun r w2 hr => ?_))
      obtain ⟨f4, rfl, rfl, hQ⟩ := hr
      obtain ⟨s5, e_s5⟩ : ∃ z : RT, z = rI s3 6 f4 := ⟨_, rfl⟩
      have hQ := hQ s5 e_s5
      refine X.world (w2 := put (put w b 7 (shP b s5)) a 19 (shS a s)) (by rw [e_s5]; exact (hset_out (by omega) sP_6)) ?_
      obtain ⟨x6, e_x6⟩ : ∃ z : Int32, z = x_3 + (1 : Int32) := ⟨_, rfl⟩
      have hQ := hQ x6 e_x6
      refine x_iinc (v := x6) (lv2 := [(3, .int x6), (0, .ref b), (1, .ref a), (2, .ref (b + 6))]) 3 d_X7_workOutSlopes_28 rfl (by rw [e_x6]; rfl) (by decide) rfl ?_
      refine x_goto (tgt := 2) d_X7_workOutSlopes_31 (by decide) ?_
      refine x_sub [1, 2, 3, 0] (lv2 := [(0, .ref b), (1, .ref a), (2, .ref (b + 6)), (3, .int x6)]) rfl ?_
      exact ih x6 s5 hQ
def wp_X7_workOutSlopes_6 (p : RT) (s : RT) (K : RT → Prop) : Prop := ∃ m : Nat, lp_X7_workOutSlopes_6_2 s K m (0 : Int32) p
set_option maxHeartbeats 4000000 in
theorem sp_X7_workOutSlopes_6 {G : GX} {l : Launch} {d : Nat} {w : HW} {a b : Nat} {p : RT} {s : RT} {K : RT → Prop} (hd : 3 ≤ d) (hx_0_1 : b + 7 ≤ a ∨ a + 19 ≤ b) (hQ : wp_X7_workOutSlopes_6 p s K) : Sp G l m_X7_workOutSlopes d 0 0 [.ref b, .ref a, .ref (b + 6)] (put (put w b 7 (shP b p)) a 19 (shS a s)) (fun r w2 => ∃ (z0 : RT), r = none ∧ w2 = put (put w b 7 (shP b z0)) a 19 (shS a s) ∧ K z0) := by
  refine Sp.ofX k_X7_workOutSlopes.1.1 (Nat.le_of_ble_eq_true rfl) ?_
  refine X.lv (lv2 := [(0, .ref b), (1, .ref a), (2, .ref (b + 6))]) rfl ?_
  refine x_iconst (v := (0 : Int32)) d_X7_workOutSlopes_0 (by decide) ?_
  refine x_istore_n (lv2 := [(3, .int (0 : Int32)), (0, .ref b), (1, .ref a), (2, .ref (b + 6))]) d_X7_workOutSlopes_1 rfl (by decide) rfl ?_
  refine x_sub [1, 2, 3, 0] (lv2 := [(0, .ref b), (1, .ref a), (2, .ref (b + 6)), (3, .int (0 : Int32))]) rfl ?_
  obtain ⟨m, hQ⟩ := hQ
  exact jt_X7_workOutSlopes_6_2 hd hx_0_1 m (0 : Int32) p hQ
def lp_X7_takeStep_186 (u : Int32) (x : Int32) (K : RT → RT → Prop) (k_158 : Int32 → Int32 → RT → RT → Prop) : Nat → Int32 → Int32 → Int32 → RT → RT → Prop
  | 0, _, _, _, _, _ => False
  | n + 1, x_5, x_6, x_7, y_0, y_1 => (((3 : Int32) ≤ x_7 → ∀ x12 : Int32, x12 = x_6 + (1 : Int32) → k_158 x_5 x12 y_0 y_1) ∧ (¬ (3 : Int32) ≤ x_7 → wp_X9_pick 3 (y_0.1 5) x_7 (fun (r13 : Int32) => wp_X9_pick 3 (y_0.1 6) x_7 (fun (r14 : Int32) => ∀ x15 : Int64, x15 = (r13.toInt64) + (r14.toInt64) → wp_X9_pick 3 (y_0.1 3) x_7 (fun (r16 : Int32) => wp_X9_hold ((r16.toInt64) + ((x15 * (x.toInt64)) / (2000 : Int64))) (fun (r17 : Int32) => wp_X9_put 3 (y_0.1 4) x_7 r17 (fun (f18 : Nat → Int32) => ∀ s19 : RT, s19 = rI y_0 4 f18 → ∀ x20 : Int32, x20 = x_7 + (1 : Int32) → lp_X7_takeStep_186 u x K k_158 n x_5 x_6 x20 s19 y_1)))))))
set_option maxHeartbeats 4000000 in
theorem jt_X7_takeStep_186 {G : GX} {l : Launch} {d : Nat} {w : HW} {a b : Nat} {u : Int32} {x : Int32} {K : RT → RT → Prop} {k_158 : Int32 → Int32 → RT → RT → Prop} (hd : 5 ≤ d) (hx_0_1 : b + 7 ≤ a ∨ a + 19 ≤ b) (hk_158 : ∀ (x_5 : Int32) (x_6 : Int32) (y_0 : RT) (y_1 : RT), k_158 x_5 x_6 y_0 y_1 → X G l m_X7_takeStep d 0 0 0 0 158 [(0, .ref b), (1, .ref a), (2, .int u), (3, .int x), (5, .int x_5), (6, .int x_6)] [] (put (put w b 7 (shP b y_0)) a 19 (shS a y_1)) (fun r w2 => ∃ (z0 : RT), ∃ (z1 : RT), r = none ∧ w2 = put (put w b 7 (shP b z0)) a 19 (shS a z1) ∧ K z0 z1)) : ∀ (n : Nat) (x_5 : Int32) (x_6 : Int32) (x_7 : Int32) (y_0 : RT) (y_1 : RT), lp_X7_takeStep_186 u x K k_158 n x_5 x_6 x_7 y_0 y_1 → X G l m_X7_takeStep d 0 0 0 0 186 [(0, .ref b), (1, .ref a), (2, .int u), (3, .int x), (5, .int x_5), (6, .int x_6), (7, .int x_7)] [] (put (put w b 7 (shP b y_0)) a 19 (shS a y_1)) (fun r w2 => ∃ (z0 : RT), ∃ (z1 : RT), r = none ∧ w2 = put (put w b 7 (shP b z0)) a 19 (shS a z1) ∧ K z0 z1) := by
  intro n
  induction n with
  | zero =>
    intro x_5 x_6 x_7 y_0 y_1 hQ
    exact hQ.elim
  | succ n ih =>
    intro x_5 x_6 x_7 y_0 y_1 hQ
    refine x_iload 6 d_X7_takeStep_186 rfl ?_
    refine x_iconst (v := (3 : Int32)) d_X7_takeStep_188 (by decide) ?_
    refine x_icmp_ge (tgt := 253) d_X7_takeStep_189 (by decide) (fun c_189_11 => ?_) (fun c_189_11 => ?_)
    · have hQ := hQ.1 c_189_11
      obtain ⟨x12, e_x12⟩ : ∃ z : Int32, z = x_6 + (1 : Int32) := ⟨_, rfl⟩
      have hQ := hQ x12 e_x12
      refine x_iinc (v := x12) (lv2 := [(6, .int x12), (0, .ref b), (1, .ref a), (2, .int u), (3, .int x), (5, .int x_5), (7, .int x_7)]) 5 d_X7_takeStep_253 rfl (by rw [e_x12]; rfl) (by decide) rfl ?_
      refine x_goto (tgt := 158) d_X7_takeStep_256 (by decide) ?_
      refine x_sub [1, 2, 3, 4, 5, 0] (lv2 := [(0, .ref b), (1, .ref a), (2, .int u), (3, .int x), (5, .int x_5), (6, .int x12)]) rfl ?_
      exact hk_158 x_5 x12 y_0 y_1 hQ
    · have hQ := hQ.2 c_189_11
      refine x_aload_n 0 d_X7_takeStep_192 rfl rfl ?_
      refine x_getf 4 gf_X7_24 (put_out (by omega) gP_0) rfl d_X7_takeStep_193 ?_
      refine x_iload 6 d_X7_takeStep_196 rfl ?_
      refine x_invSN (rest := []) (d' := d - 1) (mc' := 0) (ms' := 0) [.ref (b + 5), .int x_7] "LagSolver" k_X9_pick lk_X7_61 rfl rfl (Nat.le_of_ble_eq_true rfl) (by omega) (Nat.le_refl _) (Nat.le_refl _) d_X7_takeStep_198 ((sp_X9_pick (d := d - 1) (by omega) (put_out (by omega) gP_5) hQ).mono (fun r w2 hr => ?_))
      obtain ⟨r13, rfl, rfl, hQ⟩ := hr
      refine x_i2l d_X7_takeStep_201 rfl ?_
      refine x_aload_n 0 d_X7_takeStep_202 rfl rfl ?_
      refine x_getf 5 gf_X7_27 (put_out (by omega) gP_0) rfl d_X7_takeStep_203 ?_
      refine x_iload 6 d_X7_takeStep_206 rfl ?_
      refine x_invSN (rest := [.long (r13.toInt64)]) (d' := d - 1) (mc' := 0) (ms' := 0) [.ref (b + 6), .int x_7] "LagSolver" k_X9_pick lk_X7_61 rfl rfl (Nat.le_of_ble_eq_true rfl) (by omega) (Nat.le_refl _) (Nat.le_refl _) d_X7_takeStep_208 ((sp_X9_pick (d := d - 1) (by omega) (put_out (by omega) gP_6) hQ).mono (fun r w2 hr => ?_))
      obtain ⟨r14, rfl, rfl, hQ⟩ := hr
      refine x_i2l d_X7_takeStep_211 rfl ?_
      refine x_ladd d_X7_takeStep_212 ?_
      refine x_topl (fun x15 e_x15 => ?_)
      have hQ := hQ x15 e_x15
      refine x_lstore (lv2 := [(8, .long x15), (0, .ref b), (1, .ref a), (2, .int u), (3, .int x), (5, .int x_5), (6, .int x_6), (7, .int x_7)]) d_X7_takeStep_213 (by decide) rfl ?_
      refine x_aload_n 1 d_X7_takeStep_215 rfl rfl ?_
      refine x_getf 3 gf_X7_21 (put_out (by omega) gP_0) rfl d_X7_takeStep_216 ?_
      refine x_iload 7 d_X7_takeStep_219 rfl ?_
      refine x_aload_n 1 d_X7_takeStep_221 rfl rfl ?_
      refine x_getf 2 gf_X7_18 (put_out (by omega) gP_0) rfl d_X7_takeStep_222 ?_
      refine x_iload 7 d_X7_takeStep_225 rfl ?_
      refine x_invSN (rest := [.int x_7, .ref (b + 4)]) (d' := d - 1) (mc' := 0) (ms' := 0) [.ref (b + 3), .int x_7] "LagSolver" k_X9_pick lk_X7_61 rfl rfl (Nat.le_of_ble_eq_true rfl) (by omega) (Nat.le_refl _) (Nat.le_refl _) d_X7_takeStep_227 ((sp_X9_pick (d := d - 1) (by omega) (put_out (by omega) gP_3) hQ).mono (fun r w2 hr => ?_))
      obtain ⟨r16, rfl, rfl, hQ⟩ := hr
      refine x_i2l d_X7_takeStep_230 rfl ?_
      refine x_lload 0 d_X7_takeStep_231 rfl ?_
      refine x_iload_n 4 d_X7_takeStep_233 rfl rfl ?_
      refine x_i2l d_X7_takeStep_234 rfl ?_
      refine x_lmul d_X7_takeStep_235 ?_
      refine x_ldc2 (v := (2000 : Int64)) kc_X7_93 d_X7_takeStep_236 ?_
      refine x_ldiv d_X7_takeStep_239 (by decide) ?_
      refine x_ladd d_X7_takeStep_240 ?_
      refine x_invSN (rest := [.int x_7, .ref (b + 4)]) (d' := d - 1) (mc' := 0) (ms' := 0) [.long ((r16.toInt64) + ((x15 * (x.toInt64)) / (2000 : Int64)))] "LagSolver" k_X9_hold lk_X7_85 rfl rfl (Nat.le_of_ble_eq_true rfl) (by omega) (Nat.le_refl _) (Nat.le_refl _) d_X7_takeStep_241 ((sp_X9_hold (d := d - 1) (by omega) hQ).mono (fun r w2 hr => ?_))
      obtain ⟨r17, rfl, rfl, hQ⟩ := hr
      refine x_invSN (rest := []) (d' := d - 1) (mc' := 0) (ms' := 0) [.ref (b + 4), .int x_7, .int r17] "LagSolver" k_X9_put lk_X7_72 rfl rfl (Nat.le_of_ble_eq_true rfl) (by omega) (Nat.le_refl _) (Nat.le_refl _) d_X7_takeStep_244 ((spa_X9_put (d := d - 1) (by omega) (put_out (by omega) gP_4) hQ).mono (fun r w2 hr => ?_))
      obtain ⟨f18, rfl, rfl, hQ⟩ := hr
      obtain ⟨s19, e_s19⟩ : ∃ z : RT, z = rI y_0 4 f18 := ⟨_, rfl⟩
      have hQ := hQ s19 e_s19
      refine X.world (w2 := put (put w b 7 (shP b s19)) a 19 (shS a y_1)) (by rw [e_s19]; exact (hset_out (by omega) sP_4)) ?_
      obtain ⟨x20, e_x20⟩ : ∃ z : Int32, z = x_7 + (1 : Int32) := ⟨_, rfl⟩
      have hQ := hQ x20 e_x20
      refine x_iinc (v := x20) (lv2 := [(7, .int x20), (8, .long x15), (0, .ref b), (1, .ref a), (2, .int u), (3, .int x), (5, .int x_5), (6, .int x_6)]) 7 d_X7_takeStep_247 rfl (by rw [e_x20]; rfl) (by decide) rfl ?_
      refine x_goto (tgt := 186) d_X7_takeStep_250 (by decide) ?_
      refine x_sub [2, 3, 4, 5, 6, 7, 0] (lv2 := [(0, .ref b), (1, .ref a), (2, .int u), (3, .int x), (5, .int x_5), (6, .int x_6), (7, .int x20)]) rfl ?_
      exact ih x_5 x_6 x20 s19 y_1 hQ
def lp_X7_takeStep_158 (u : Int32) (x : Int32) (K : RT → RT → Prop) : Nat → Int32 → Int32 → RT → RT → Prop
  | 0, _, _, _, _ => False
  | n + 1, x_5, x_6, y_0, y_1 => ((x_5 < x_6 → wp_X4_append y_0 y_1 x x_5 (fun (s8 : RT) => K y_0 s8)) ∧ (¬ x_5 < x_6 → wp_X7_gather y_0 y_1 (u + x) u (fun (s9 : RT) => wp_X7_workOutSlopes_6 s9 y_1 (fun (s10 : RT) => ∃ m : Nat, lp_X7_takeStep_186 u x K (fun v0 v1 v2 v3 => lp_X7_takeStep_158 u x K n v0 v1 v2 v3) m x_5 x_6 (0 : Int32) s10 y_1))))
set_option maxHeartbeats 4000000 in
theorem jt_X7_takeStep_158 {G : GX} {l : Launch} {d : Nat} {w : HW} {a b : Nat} {u : Int32} {x : Int32} {K : RT → RT → Prop} (hd : 5 ≤ d) (hx_0_1 : b + 7 ≤ a ∨ a + 19 ≤ b) : ∀ (n : Nat) (x_5 : Int32) (x_6 : Int32) (y_0 : RT) (y_1 : RT), lp_X7_takeStep_158 u x K n x_5 x_6 y_0 y_1 → X G l m_X7_takeStep d 0 0 0 0 158 [(0, .ref b), (1, .ref a), (2, .int u), (3, .int x), (5, .int x_5), (6, .int x_6)] [] (put (put w b 7 (shP b y_0)) a 19 (shS a y_1)) (fun r w2 => ∃ (z0 : RT), ∃ (z1 : RT), r = none ∧ w2 = put (put w b 7 (shP b z0)) a 19 (shS a z1) ∧ K z0 z1) := by
  intro n
  induction n with
  | zero =>
    intro x_5 x_6 y_0 y_1 hQ
    exact hQ.elim
  | succ n ih =>
    intro x_5 x_6 y_0 y_1 hQ
    refine x_iload 5 d_X7_takeStep_158 rfl ?_
    refine x_iload 4 d_X7_takeStep_160 rfl ?_
    refine x_icmp_gt (tgt := 259) d_X7_takeStep_162 (by decide) (fun c_162_7 => ?_) (fun c_162_7 => ?_)
    · have hQ := hQ.1 c_162_7
      refine x_aload_n 1 d_X7_takeStep_259 rfl rfl ?_
      refine x_getfN 5 gf_X7_30 gS_0 rfl d_X7_takeStep_260 ?_
      refine x_iload_n 3 d_X7_takeStep_263 rfl rfl ?_
      refine x_aload_n 0 d_X7_takeStep_264 rfl rfl ?_
      refine x_getf 4 gf_X7_24 (put_out (by omega) gP_0) rfl d_X7_takeStep_265 ?_
      refine x_iload 4 d_X7_takeStep_268 rfl ?_
      refine x_aload_n 0 d_X7_takeStep_270 rfl rfl ?_
      refine x_getf 3 gf_X7_21 (put_out (by omega) gP_0) rfl d_X7_takeStep_271 ?_
      refine x_invV (rest := []) (d' := d - 1) (mc' := 0) (ms' := 0) [.int x, .ref (b + 5), .int x_5, .ref (b + 4)] k_X4_append lk_X7_95 gS_17 rfl rfl rfl (Nat.le_of_ble_eq_true rfl) (by omega) (Nat.le_refl _) (Nat.le_refl _) d_X7_takeStep_274 ((sp_X4_append (d := d - 1) (by omega) (by omega) hQ).mono (fun r w2 hr => ?_))
      obtain ⟨s8, rfl, rfl, hQ⟩ := hr
      exact x_vret (retV d_X7_takeStep_277 rfl) ⟨_, _, rfl, rfl, hQ⟩
    · have hQ := hQ.2 c_162_7
      refine x_aload_n 0 d_X7_takeStep_165 rfl rfl ?_
      refine x_aload_n 1 d_X7_takeStep_166 rfl rfl ?_
      refine x_iload_n 2 d_X7_takeStep_167 rfl rfl ?_
      refine x_iload_n 3 d_X7_takeStep_168 rfl rfl ?_
      refine x_iadd d_X7_takeStep_169 ?_
      refine x_iload_n 2 d_X7_takeStep_170 rfl rfl ?_
      refine x_invV (rest := []) (d' := d - 1) (mc' := 0) (ms' := 0) [.ref a, .int (u + x), .int u] k_X7_gather lk_X7_76 (put_out (by omega) gP_0) rfl rfl rfl (Nat.le_of_ble_eq_true rfl) (by omega) (Nat.le_refl _) (Nat.le_refl _) d_X7_takeStep_171 ((sp_X7_gather (d := d - 1) (by omega) (by omega) hQ).mono (fun r w2 hr => ?_))
      obtain ⟨s9, rfl, rfl, hQ⟩ := hr
      refine x_aload_n 0 d_X7_takeStep_174 rfl rfl ?_
      refine x_aload_n 1 d_X7_takeStep_175 rfl rfl ?_
      refine x_aload_n 0 d_X7_takeStep_176 rfl rfl ?_
      refine x_getf 5 gf_X7_27 (put_out (by omega) gP_0) rfl d_X7_takeStep_177 ?_
      refine x_invV (rest := []) (d' := d - 1) (mc' := 0) (ms' := 0) [.ref a, .ref (b + 6)] k_X7_workOutSlopes lk_X7_79 (put_out (by omega) gP_0) rfl rfl rfl (Nat.le_of_ble_eq_true rfl) (by omega) (Nat.le_refl _) (Nat.le_refl _) d_X7_takeStep_180 ((sp_X7_workOutSlopes_6 (d := d - 1) (by omega) (by omega) hQ).mono (fun r w2 hr => ?_))
      obtain ⟨s10, rfl, rfl, hQ⟩ := hr
      refine x_iconst (v := (0 : Int32)) d_X7_takeStep_183 (by decide) ?_
      refine x_istore (lv2 := [(7, .int (0 : Int32)), (0, .ref b), (1, .ref a), (2, .int u), (3, .int x), (5, .int x_5), (6, .int x_6)]) d_X7_takeStep_184 (by decide) rfl ?_
      refine x_sub [1, 2, 3, 4, 5, 6, 0] (lv2 := [(0, .ref b), (1, .ref a), (2, .int u), (3, .int x), (5, .int x_5), (6, .int x_6), (7, .int (0 : Int32))]) rfl ?_
      obtain ⟨m, hQ⟩ := hQ
      exact jt_X7_takeStep_186 hd hx_0_1 ih m x_5 x_6 (0 : Int32) s10 y_1 hQ
def lp_X7_takeStep_70 (u : Int32) (x : Int32) (K : RT → RT → Prop) : Nat → Int32 → RT → RT → Prop
  | 0, _, _, _ => False
  | n + 1, x_4, y_0, y_1 => (((3 : Int32) ≤ x_4 → wp_X7_hasShortLag y_0 y_1 (u + x) x (fun (r5 : Int32) => ((r5 = (0 : Int32) → ∃ m : Nat, lp_X7_takeStep_158 u x K m (0 : Int32) (0 : Int32) y_0 y_1) ∧ (¬ r5 = (0 : Int32) → wp_X9_pick 3 (y_1.1 12) (1 : Int32) (fun (r21 : Int32) => ∃ m : Nat, lp_X7_takeStep_158 u x K m r21 (0 : Int32) y_0 y_1))))) ∧ (¬ (3 : Int32) ≤ x_4 → wp_X9_pick 3 (y_0.1 5) x_4 (fun (r22 : Int32) => ∀ x23 : Int64, x23 = r22.toInt64 → wp_X9_pick 3 (y_0.1 3) x_4 (fun (r24 : Int32) => wp_X9_hold ((r24.toInt64) + ((x23 * (x.toInt64)) / (1000 : Int64))) (fun (r25 : Int32) => wp_X9_put 3 (y_0.1 4) x_4 r25 (fun (f26 : Nat → Int32) => ∀ s27 : RT, s27 = rI y_0 4 f26 → ∀ x28 : Int32, x28 = x_4 + (1 : Int32) → lp_X7_takeStep_70 u x K n x28 s27 y_1))))))
set_option maxHeartbeats 4000000 in
theorem jt_X7_takeStep_70 {G : GX} {l : Launch} {d : Nat} {w : HW} {a b : Nat} {u : Int32} {x : Int32} {K : RT → RT → Prop} (hd : 5 ≤ d) (hx_0_1 : b + 7 ≤ a ∨ a + 19 ≤ b) : ∀ (n : Nat) (x_4 : Int32) (y_0 : RT) (y_1 : RT), lp_X7_takeStep_70 u x K n x_4 y_0 y_1 → X G l m_X7_takeStep d 0 0 0 0 70 [(0, .ref b), (1, .ref a), (2, .int u), (3, .int x), (4, .int x_4)] [] (put (put w b 7 (shP b y_0)) a 19 (shS a y_1)) (fun r w2 => ∃ (z0 : RT), ∃ (z1 : RT), r = none ∧ w2 = put (put w b 7 (shP b z0)) a 19 (shS a z1) ∧ K z0 z1) := by
  intro n
  induction n with
  | zero =>
    intro x_4 y_0 y_1 hQ
    exact hQ.elim
  | succ n ih =>
    intro x_4 y_0 y_1 hQ
    refine x_iload 4 d_X7_takeStep_70 rfl ?_
    refine x_iconst (v := (3 : Int32)) d_X7_takeStep_72 (by decide) ?_
    refine x_icmp_ge (tgt := 126) d_X7_takeStep_73 (by decide) (fun c_73_4 => ?_) (fun c_73_4 => ?_)
    · have hQ := hQ.1 c_73_4
      refine x_aload_n 1 d_X7_takeStep_126 rfl rfl ?_
      refine x_iload_n 2 d_X7_takeStep_127 rfl rfl ?_
      refine x_iload_n 3 d_X7_takeStep_128 rfl rfl ?_
      refine x_iadd d_X7_takeStep_129 ?_
      refine x_iload_n 3 d_X7_takeStep_130 rfl rfl ?_
      refine x_invS (rest := []) (d' := d - 1) (mc' := 0) (ms' := 0) [.ref a, .int (u + x), .int x] k_X7_hasShortLag lk_X7_89 rfl rfl (Nat.le_of_ble_eq_true rfl) (by omega) (Nat.le_refl _) (Nat.le_refl _) d_X7_takeStep_131 ((sp_X7_hasShortLag (d := d - 1) (by omega) (by omega) hQ).mono (fun r w2 hr => ?_))
      obtain ⟨r5, rfl, rfl, hQ⟩ := hr
      refine x_istore (lv2 := [(4, .int r5), (0, .ref b), (1, .ref a), (2, .int u), (3, .int x)]) d_X7_takeStep_134 (by decide) rfl ?_
      refine x_iload 0 d_X7_takeStep_136 rfl ?_
      refine x_if_eq (tgt := 152) d_X7_takeStep_138 (by decide) (fun c_138_6 => ?_) (fun c_138_6 => ?_)
      · have hQ := hQ.1 c_138_6
        refine x_iconst (v := (0 : Int32)) d_X7_takeStep_152 (by decide) ?_
        refine x_istore (lv2 := [(5, .int (0 : Int32)), (4, .int r5), (0, .ref b), (1, .ref a), (2, .int u), (3, .int x)]) d_X7_takeStep_153 (by decide) rfl ?_
        refine x_iconst (v := (0 : Int32)) d_X7_takeStep_155 (by decide) ?_
        refine x_istore (lv2 := [(6, .int (0 : Int32)), (5, .int (0 : Int32)), (4, .int r5), (0, .ref b), (1, .ref a), (2, .int u), (3, .int x)]) d_X7_takeStep_156 (by decide) rfl ?_
        refine x_sub [3, 4, 5, 6, 1, 0] (lv2 := [(0, .ref b), (1, .ref a), (2, .int u), (3, .int x), (5, .int (0 : Int32)), (6, .int (0 : Int32))]) rfl ?_
        obtain ⟨m, hQ⟩ := hQ
        exact jt_X7_takeStep_158 hd hx_0_1 m (0 : Int32) (0 : Int32) y_0 y_1 hQ
      · have hQ := hQ.2 c_138_6
        refine x_aload_n 2 d_X7_takeStep_141 rfl rfl ?_
        refine x_getfN 3 gf_X7_58 gS_0 rfl d_X7_takeStep_142 ?_
        refine x_iconst (v := (1 : Int32)) d_X7_takeStep_145 (by decide) ?_
        refine x_invSN (rest := []) (d' := d - 1) (mc' := 0) (ms' := 0) [.ref (a + 12), .int (1 : Int32)] "LagSolver" k_X9_pick lk_X7_61 rfl rfl (Nat.le_of_ble_eq_true rfl) (by omega) (Nat.le_refl _) (Nat.le_refl _) d_X7_takeStep_146 ((sp_X9_pick (d := d - 1) (by omega) gS_12 hQ).mono (fun r w2 hr => ?_))
        obtain ⟨r21, rfl, rfl, hQ⟩ := hr
        refine x_goto (tgt := 153) d_X7_takeStep_149 (by decide) ?_
        refine x_istore (lv2 := [(5, .int r21), (4, .int r5), (0, .ref b), (1, .ref a), (2, .int u), (3, .int x)]) d_X7_takeStep_153 (by decide) rfl ?_
        refine x_iconst (v := (0 : Int32)) d_X7_takeStep_155 (by decide) ?_
        refine x_istore (lv2 := [(6, .int (0 : Int32)), (5, .int r21), (4, .int r5), (0, .ref b), (1, .ref a), (2, .int u), (3, .int x)]) d_X7_takeStep_156 (by decide) rfl ?_
        refine x_sub [3, 4, 5, 6, 1, 0] (lv2 := [(0, .ref b), (1, .ref a), (2, .int u), (3, .int x), (5, .int r21), (6, .int (0 : Int32))]) rfl ?_
        obtain ⟨m, hQ⟩ := hQ
        exact jt_X7_takeStep_158 hd hx_0_1 m r21 (0 : Int32) y_0 y_1 hQ
    · have hQ := hQ.2 c_73_4
      refine x_aload_n 0 d_X7_takeStep_76 rfl rfl ?_
      refine x_getf 4 gf_X7_24 (put_out (by omega) gP_0) rfl d_X7_takeStep_77 ?_
      refine x_iload 4 d_X7_takeStep_80 rfl ?_
      refine x_invSN (rest := []) (d' := d - 1) (mc' := 0) (ms' := 0) [.ref (b + 5), .int x_4] "LagSolver" k_X9_pick lk_X7_61 rfl rfl (Nat.le_of_ble_eq_true rfl) (by omega) (Nat.le_refl _) (Nat.le_refl _) d_X7_takeStep_82 ((sp_X9_pick (d := d - 1) (by omega) (put_out (by omega) gP_5) hQ).mono (fun r w2 hr => ?_))
      obtain ⟨r22, rfl, rfl, hQ⟩ := hr
      refine x_i2l d_X7_takeStep_85 rfl ?_
      refine x_topl (fun x23 e_x23 => ?_)
      have hQ := hQ x23 e_x23
      refine x_lstore (lv2 := [(5, .long x23), (0, .ref b), (1, .ref a), (2, .int u), (3, .int x), (4, .int x_4)]) d_X7_takeStep_86 (by decide) rfl ?_
      refine x_aload_n 1 d_X7_takeStep_88 rfl rfl ?_
      refine x_getf 3 gf_X7_21 (put_out (by omega) gP_0) rfl d_X7_takeStep_89 ?_
      refine x_iload 5 d_X7_takeStep_92 rfl ?_
      refine x_aload_n 1 d_X7_takeStep_94 rfl rfl ?_
      refine x_getf 2 gf_X7_18 (put_out (by omega) gP_0) rfl d_X7_takeStep_95 ?_
      refine x_iload 5 d_X7_takeStep_98 rfl ?_
      refine x_invSN (rest := [.int x_4, .ref (b + 4)]) (d' := d - 1) (mc' := 0) (ms' := 0) [.ref (b + 3), .int x_4] "LagSolver" k_X9_pick lk_X7_61 rfl rfl (Nat.le_of_ble_eq_true rfl) (by omega) (Nat.le_refl _) (Nat.le_refl _) d_X7_takeStep_100 ((sp_X9_pick (d := d - 1) (by omega) (put_out (by omega) gP_3) hQ).mono (fun r w2 hr => ?_))
      obtain ⟨r24, rfl, rfl, hQ⟩ := hr
      refine x_i2l d_X7_takeStep_103 rfl ?_
      refine x_lload 0 d_X7_takeStep_104 rfl ?_
      refine x_iload_n 4 d_X7_takeStep_106 rfl rfl ?_
      refine x_i2l d_X7_takeStep_107 rfl ?_
      refine x_lmul d_X7_takeStep_108 ?_
      refine x_ldc2 (v := (1000 : Int64)) kc_X7_83 d_X7_takeStep_109 ?_
      refine x_ldiv d_X7_takeStep_112 (by decide) ?_
      refine x_ladd d_X7_takeStep_113 ?_
      refine x_invSN (rest := [.int x_4, .ref (b + 4)]) (d' := d - 1) (mc' := 0) (ms' := 0) [.long ((r24.toInt64) + ((x23 * (x.toInt64)) / (1000 : Int64)))] "LagSolver" k_X9_hold lk_X7_85 rfl rfl (Nat.le_of_ble_eq_true rfl) (by omega) (Nat.le_refl _) (Nat.le_refl _) d_X7_takeStep_114 ((sp_X9_hold (d := d - 1) (by omega) hQ).mono (fun r w2 hr => ?_))
      obtain ⟨r25, rfl, rfl, hQ⟩ := hr
      refine x_invSN (rest := []) (d' := d - 1) (mc' := 0) (ms' := 0) [.ref (b + 4), .int x_4, .int r25] "LagSolver" k_X9_put lk_X7_72 rfl rfl (Nat.le_of_ble_eq_true rfl) (by omega) (Nat.le_refl _) (Nat.le_refl _) d_X7_takeStep_117 ((spa_X9_put (d := d - 1) (by omega) (put_out (by omega) gP_4) hQ).mono (fun r w2 hr => ?_))
      obtain ⟨f26, rfl, rfl, hQ⟩ := hr
      obtain ⟨s27, e_s27⟩ : ∃ z : RT, z = rI y_0 4 f26 := ⟨_, rfl⟩
      have hQ := hQ s27 e_s27
      refine X.world (w2 := put (put w b 7 (shP b s27)) a 19 (shS a y_1)) (by rw [e_s27]; exact (hset_out (by omega) sP_4)) ?_
      obtain ⟨x28, e_x28⟩ : ∃ z : Int32, z = x_4 + (1 : Int32) := ⟨_, rfl⟩
      have hQ := hQ x28 e_x28
      refine x_iinc (v := x28) (lv2 := [(4, .int x28), (5, .long x23), (0, .ref b), (1, .ref a), (2, .int u), (3, .int x)]) 5 d_X7_takeStep_120 rfl (by rw [e_x28]; rfl) (by decide) rfl ?_
      refine x_goto (tgt := 70) d_X7_takeStep_123 (by decide) ?_
      refine x_sub [2, 3, 4, 5, 0] (lv2 := [(0, .ref b), (1, .ref a), (2, .int u), (3, .int x), (4, .int x28)]) rfl ?_
      exact ih x28 s27 y_1 hQ
def lp_X7_takeStep_3 (u : Int32) (x : Int32) (K : RT → RT → Prop) : Nat → Int32 → RT → RT → Prop
  | 0, _, _, _ => False
  | n + 1, x_4, y_0, y_1 => (((3 : Int32) ≤ x_4 → wp_X7_gather y_0 y_1 u u (fun (s2 : RT) => wp_X7_workOutSlopes_5 s2 y_1 (fun (s3 : RT) => ∃ m : Nat, lp_X7_takeStep_70 u x K m (0 : Int32) s3 y_1))) ∧ (¬ (3 : Int32) ≤ x_4 → wp_X4_endValue y_1 x_4 (fun (r29 : Int32) => wp_X9_put 3 (y_0.1 3) x_4 r29 (fun (f30 : Nat → Int32) => ∀ s31 : RT, s31 = rI y_0 3 f30 → wp_X9_pick 3 (s31.1 3) x_4 (fun (r32 : Int32) => wp_X9_put 3 (s31.1 4) x_4 r32 (fun (f33 : Nat → Int32) => ∀ s34 : RT, s34 = rI s31 4 f33 → ∀ x35 : Int32, x35 = x_4 + (1 : Int32) → lp_X7_takeStep_3 u x K n x35 s34 y_1))))))
set_option maxHeartbeats 4000000 in
theorem jt_X7_takeStep_3 {G : GX} {l : Launch} {d : Nat} {w : HW} {a b : Nat} {u : Int32} {x : Int32} {K : RT → RT → Prop} (hd : 5 ≤ d) (hx_0_1 : b + 7 ≤ a ∨ a + 19 ≤ b) : ∀ (n : Nat) (x_4 : Int32) (y_0 : RT) (y_1 : RT), lp_X7_takeStep_3 u x K n x_4 y_0 y_1 → X G l m_X7_takeStep d 0 0 0 0 3 [(0, .ref b), (1, .ref a), (2, .int u), (3, .int x), (4, .int x_4)] [] (put (put w b 7 (shP b y_0)) a 19 (shS a y_1)) (fun r w2 => ∃ (z0 : RT), ∃ (z1 : RT), r = none ∧ w2 = put (put w b 7 (shP b z0)) a 19 (shS a z1) ∧ K z0 z1) := by
  intro n
  induction n with
  | zero =>
    intro x_4 y_0 y_1 hQ
    exact hQ.elim
  | succ n ih =>
    intro x_4 y_0 y_1 hQ
    refine x_iload 4 d_X7_takeStep_3 rfl ?_
    refine x_iconst (v := (3 : Int32)) d_X7_takeStep_5 (by decide) ?_
    refine x_icmp_ge (tgt := 51) d_X7_takeStep_6 (by decide) (fun c_6_1 => ?_) (fun c_6_1 => ?_)
    · have hQ := hQ.1 c_6_1
      refine x_aload_n 0 d_X7_takeStep_51 rfl rfl ?_
      refine x_aload_n 1 d_X7_takeStep_52 rfl rfl ?_
      refine x_iload_n 2 d_X7_takeStep_53 rfl rfl ?_
      refine x_iload_n 2 d_X7_takeStep_54 rfl rfl ?_
      refine x_invV (rest := []) (d' := d - 1) (mc' := 0) (ms' := 0) [.ref a, .int u, .int u] k_X7_gather lk_X7_76 (put_out (by omega) gP_0) rfl rfl rfl (Nat.le_of_ble_eq_true rfl) (by omega) (Nat.le_refl _) (Nat.le_refl _) d_X7_takeStep_55 ((sp_X7_gather (d := d - 1) (by omega) (by omega) hQ).mono (fun r w2 hr => ?_))
      obtain ⟨s2, rfl, rfl, hQ⟩ := hr
      refine x_aload_n 0 d_X7_takeStep_58 rfl rfl ?_
      refine x_aload_n 1 d_X7_takeStep_59 rfl rfl ?_
      refine x_aload_n 0 d_X7_takeStep_60 rfl rfl ?_
      refine x_getf 4 gf_X7_24 (put_out (by omega) gP_0) rfl d_X7_takeStep_61 ?_
      refine x_invV (rest := []) (d' := d - 1) (mc' := 0) (ms' := 0) [.ref a, .ref (b + 5)] k_X7_workOutSlopes lk_X7_79 (put_out (by omega) gP_0) rfl rfl rfl (Nat.le_of_ble_eq_true rfl) (by omega) (Nat.le_refl _) (Nat.le_refl _) d_X7_takeStep_64 ((sp_X7_workOutSlopes_5 (d := d - 1) (by omega) (by omega) hQ).mono (fun r w2 hr => ?_))
      obtain ⟨s3, rfl, rfl, hQ⟩ := hr
      refine x_iconst (v := (0 : Int32)) d_X7_takeStep_67 (by decide) ?_
      refine x_istore (lv2 := [(4, .int (0 : Int32)), (0, .ref b), (1, .ref a), (2, .int u), (3, .int x)]) d_X7_takeStep_68 (by decide) rfl ?_
      refine x_sub [1, 2, 3, 4, 0] (lv2 := [(0, .ref b), (1, .ref a), (2, .int u), (3, .int x), (4, .int (0 : Int32))]) rfl ?_
      obtain ⟨m, hQ⟩ := hQ
      exact jt_X7_takeStep_70 hd hx_0_1 m (0 : Int32) s3 y_1 hQ
    · have hQ := hQ.2 c_6_1
      refine x_aload_n 0 d_X7_takeStep_9 rfl rfl ?_
      refine x_getf 2 gf_X7_18 (put_out (by omega) gP_0) rfl d_X7_takeStep_10 ?_
      refine x_iload 4 d_X7_takeStep_13 rfl ?_
      refine x_aload_n 1 d_X7_takeStep_15 rfl rfl ?_
      refine x_getfN 5 gf_X7_30 gS_0 rfl d_X7_takeStep_16 ?_
      refine x_iload 4 d_X7_takeStep_19 rfl ?_
      refine x_invV (rest := [.int x_4, .ref (b + 3)]) (d' := d - 1) (mc' := 0) (ms' := 0) [.int x_4] k_X4_endValue lk_X7_69 gS_17 rfl rfl rfl (Nat.le_of_ble_eq_true rfl) (by omega) (Nat.le_refl _) (Nat.le_refl _) d_X7_takeStep_21 ((sp_X4_endValue (d := d - 1) (by omega) hQ).mono (fun r w2 hr => ?_))
      obtain ⟨r29, rfl, rfl, hQ⟩ := hr
      refine x_invSN (rest := []) (d' := d - 1) (mc' := 0) (ms' := 0) [.ref (b + 3), .int x_4, .int r29] "LagSolver" k_X9_put lk_X7_72 rfl rfl (Nat.le_of_ble_eq_true rfl) (by omega) (Nat.le_refl _) (Nat.le_refl _) d_X7_takeStep_24 ((spa_X9_put (d := d - 1) (by omega) (put_out (by omega) gP_3) hQ).mono (fun r w2 hr => ?_))
      obtain ⟨f30, rfl, rfl, hQ⟩ := hr
      obtain ⟨s31, e_s31⟩ : ∃ z : RT, z = rI y_0 3 f30 := ⟨_, rfl⟩
      have hQ := hQ s31 e_s31
      refine X.world (w2 := put (put w b 7 (shP b s31)) a 19 (shS a y_1)) (by rw [e_s31]; exact (hset_out (by omega) sP_3)) ?_
      refine x_aload_n 0 d_X7_takeStep_27 rfl rfl ?_
      refine x_getf 3 gf_X7_21 (put_out (by omega) gP_0) rfl d_X7_takeStep_28 ?_
      refine x_iload 4 d_X7_takeStep_31 rfl ?_
      refine x_aload_n 0 d_X7_takeStep_33 rfl rfl ?_
      refine x_getf 2 gf_X7_18 (put_out (by omega) gP_0) rfl d_X7_takeStep_34 ?_
      refine x_iload 4 d_X7_takeStep_37 rfl ?_
      refine x_invSN (rest := [.int x_4, .ref (b + 4)]) (d' := d - 1) (mc' := 0) (ms' := 0) [.ref (b + 3), .int x_4] "LagSolver" k_X9_pick lk_X7_61 rfl rfl (Nat.le_of_ble_eq_true rfl) (by omega) (Nat.le_refl _) (Nat.le_refl _) d_X7_takeStep_39 ((sp_X9_pick (d := d - 1) (by omega) (put_out (by omega) gP_3) hQ).mono (fun r w2 hr => ?_))
      obtain ⟨r32, rfl, rfl, hQ⟩ := hr
      refine x_invSN (rest := []) (d' := d - 1) (mc' := 0) (ms' := 0) [.ref (b + 4), .int x_4, .int r32] "LagSolver" k_X9_put lk_X7_72 rfl rfl (Nat.le_of_ble_eq_true rfl) (by omega) (Nat.le_refl _) (Nat.le_refl _) d_X7_takeStep_42 ((spa_X9_put (d := d - 1) (by omega) (put_out (by omega) gP_4) hQ).mono (fun r w2 hr => ?_))
      obtain ⟨f33, rfl, rfl, hQ⟩ := hr
      obtain ⟨s34, e_s34⟩ : ∃ z : RT, z = rI s31 4 f33 := ⟨_, rfl⟩
      have hQ := hQ s34 e_s34
      refine X.world (w2 := put (put w b 7 (shP b s34)) a 19 (shS a y_1)) (by rw [e_s34]; exact (hset_out (by omega) sP_4)) ?_
      obtain ⟨x35, e_x35⟩ : ∃ z : Int32, z = x_4 + (1 : Int32) := ⟨_, rfl⟩
      have hQ := hQ x35 e_x35
      refine x_iinc (v := x35) (lv2 := [(4, .int x35), (0, .ref b), (1, .ref a), (2, .int u), (3, .int x)]) 4 d_X7_takeStep_45 rfl (by rw [e_x35]; rfl) (by decide) rfl ?_
      refine x_goto (tgt := 3) d_X7_takeStep_48 (by decide) ?_
      refine x_sub [1, 2, 3, 4, 0] (lv2 := [(0, .ref b), (1, .ref a), (2, .int u), (3, .int x), (4, .int x35)]) rfl ?_
      exact ih x35 s34 y_1 hQ
def wp_X7_takeStep (p : RT) (s : RT) (u : Int32) (x : Int32) (K : RT → RT → Prop) : Prop := ∃ m : Nat, lp_X7_takeStep_3 u x K m (0 : Int32) p s
set_option maxHeartbeats 4000000 in
theorem sp_X7_takeStep {G : GX} {l : Launch} {d : Nat} {w : HW} {a b : Nat} {p : RT} {s : RT} {u : Int32} {x : Int32} {K : RT → RT → Prop} (hd : 5 ≤ d) (hx_0_1 : b + 7 ≤ a ∨ a + 19 ≤ b) (hQ : wp_X7_takeStep p s u x K) : Sp G l m_X7_takeStep d 0 0 [.ref b, .ref a, .int u, .int x] (put (put w b 7 (shP b p)) a 19 (shS a s)) (fun r w2 => ∃ (z0 : RT), ∃ (z1 : RT), r = none ∧ w2 = put (put w b 7 (shP b z0)) a 19 (shS a z1) ∧ K z0 z1) := by
  refine Sp.ofX k_X7_takeStep.1.1 (Nat.le_of_ble_eq_true rfl) ?_
  refine X.lv (lv2 := [(0, .ref b), (1, .ref a), (2, .int u), (3, .int x)]) rfl ?_
  refine x_iconst (v := (0 : Int32)) d_X7_takeStep_0 (by decide) ?_
  refine x_istore (lv2 := [(4, .int (0 : Int32)), (0, .ref b), (1, .ref a), (2, .int u), (3, .int x)]) d_X7_takeStep_1 (by decide) rfl ?_
  refine x_sub [1, 2, 3, 4, 0] (lv2 := [(0, .ref b), (1, .ref a), (2, .int u), (3, .int x), (4, .int (0 : Int32))]) rfl ?_
  obtain ⟨m, hQ⟩ := hQ
  exact jt_X7_takeStep_3 hd hx_0_1 m (0 : Int32) p s hQ
def lp_X7_advance_7 (u : Int32) (K : RT → RT → Prop) : Nat → Int32 → RT → RT → Prop
  | 0, _, _, _ => False
  | n + 1, x_3, y_0, y_1 => (((960 : Int32) ≤ x_3 → K y_0 y_1) ∧ (¬ (960 : Int32) ≤ x_3 → wp_X4_endTime y_1 (fun (r2 : Int32) => ((u ≤ r2 → K y_0 y_1) ∧ (¬ u ≤ r2 → wp_X4_endTime y_1 (fun (r4 : Int32) => wp_X0_next y_1 r4 (fun (r5 : Int32) => ∀ x6 : Int32, x6 = (if r5 < u then r5 else u) → wp_X9_pick 3 (y_1.1 12) (0 : Int32) (fun (r7 : Int32) => wp_X7_takeStep y_0 y_1 r4 (if (x6 - r4) < r7 then (x6 - r4) else r7) (fun (s8 : RT) (s9 : RT) => ∀ x10 : Int32, x10 = x_3 + (1 : Int32) → lp_X7_advance_7 u K n x10 s8 s9)))))))))
set_option maxHeartbeats 4000000 in
theorem jt_X7_advance_7 {G : GX} {l : Launch} {d : Nat} {w : HW} {a b : Nat} {u : Int32} {K : RT → RT → Prop} (hd : 6 ≤ d) (hx_0_1 : b + 7 ≤ a ∨ a + 19 ≤ b) : ∀ (n : Nat) (x_3 : Int32) (y_0 : RT) (y_1 : RT), lp_X7_advance_7 u K n x_3 y_0 y_1 → X G l m_X7_advance d 0 0 0 0 7 [(0, .ref b), (1, .ref a), (2, .int u), (3, .int x_3)] [] (put (put w b 7 (shP b y_0)) a 19 (shS a y_1)) (fun r w2 => ∃ (z0 : RT), ∃ (z1 : RT), r = none ∧ w2 = put (put w b 7 (shP b z0)) a 19 (shS a z1) ∧ K z0 z1) := by
  intro n
  induction n with
  | zero =>
    intro x_3 y_0 y_1 hQ
    exact hQ.elim
  | succ n ih =>
    intro x_3 y_0 y_1 hQ
    refine x_iload_n 3 d_X7_advance_7 rfl rfl ?_
    refine x_sipush (v := (960 : Int32)) d_X7_advance_8 (by decide) ?_
    refine x_icmp_ge (tgt := 78) d_X7_advance_11 (by decide) (fun c_11_1 => ?_) (fun c_11_1 => ?_)
    · have hQ := hQ.1 c_11_1
      exact x_vret (retV d_X7_advance_78 rfl) ⟨_, _, rfl, rfl, hQ⟩
    · have hQ := hQ.2 c_11_1
      refine x_aload_n 1 d_X7_advance_14 rfl rfl ?_
      refine x_getfN 5 gf_X7_30 gS_0 rfl d_X7_advance_15 ?_
      refine x_invV (rest := []) (d' := d - 1) (mc' := 0) (ms' := 0) [] k_X4_endTime lk_X7_36 gS_17 rfl rfl rfl (Nat.le_of_ble_eq_true rfl) (by omega) (Nat.le_refl _) (Nat.le_refl _) d_X7_advance_18 ((sp_X4_endTime (d := d - 1) (by omega) hQ).mono (fun r w2 hr => ?_))
      obtain ⟨r2, rfl, rfl, hQ⟩ := hr
      refine x_iload_n 2 d_X7_advance_21 rfl rfl ?_
      refine x_icmp_ge (tgt := 78) d_X7_advance_22 (by decide) (fun c_22_3 => ?_) (fun c_22_3 => ?_)
      · have hQ := hQ.1 c_22_3
        exact x_vret (retV d_X7_advance_78 rfl) ⟨_, _, rfl, rfl, hQ⟩
      · have hQ := hQ.2 c_22_3
        refine x_aload_n 1 d_X7_advance_25 rfl rfl ?_
        refine x_getfN 5 gf_X7_30 gS_0 rfl d_X7_advance_26 ?_
        refine x_invV (rest := []) (d' := d - 1) (mc' := 0) (ms' := 0) [] k_X4_endTime lk_X7_36 gS_17 rfl rfl rfl (Nat.le_of_ble_eq_true rfl) (by omega) (Nat.le_refl _) (Nat.le_refl _) d_X7_advance_29 ((sp_X4_endTime (d := d - 1) (by omega) hQ).mono (fun r w2 hr => ?_))
        obtain ⟨r4, rfl, rfl, hQ⟩ := hr
        refine x_istore (lv2 := [(4, .int r4), (0, .ref b), (1, .ref a), (2, .int u), (3, .int x_3)]) d_X7_advance_32 (by decide) rfl ?_
        refine x_iload_n 3 d_X7_advance_34 rfl rfl ?_
        refine x_aload_n 2 d_X7_advance_35 rfl rfl ?_
        refine x_getfN 4 gf_X7_42 gS_0 rfl d_X7_advance_36 ?_
        refine x_iload 0 d_X7_advance_39 rfl ?_
        refine x_invV (rest := [.int u]) (d' := d - 1) (mc' := 0) (ms' := 0) [.int r4] k_X0_next lk_X7_46 gS_13 rfl rfl rfl (Nat.le_of_ble_eq_true rfl) (by omega) (Nat.le_refl _) (Nat.le_refl _) d_X7_advance_41 ((sp_X0_next (d := d - 1) (by omega) hQ).mono (fun r w2 hr => ?_))
        obtain ⟨r5, rfl, rfl, hQ⟩ := hr
        refine x_mmin lk_X7_52 jw_min_s iw_Math jw_min_c (Nat.le_of_ble_eq_true rfl) (by omega) d_X7_advance_44 ?_
        refine x_topi (fun x6 e_x6 => ?_)
        have hQ := hQ x6 e_x6
        refine x_istore (lv2 := [(5, .int x6), (4, .int r4), (0, .ref b), (1, .ref a), (2, .int u), (3, .int x_3)]) d_X7_advance_47 (by decide) rfl ?_
        refine x_aload_n 2 d_X7_advance_49 rfl rfl ?_
        refine x_aload_n 3 d_X7_advance_50 rfl rfl ?_
        refine x_iload 1 d_X7_advance_51 rfl ?_
        refine x_aload_n 3 d_X7_advance_53 rfl rfl ?_
        refine x_getfN 3 gf_X7_58 gS_0 rfl d_X7_advance_54 ?_
        refine x_iconst (v := (0 : Int32)) d_X7_advance_57 (by decide) ?_
        refine x_invSN (rest := [.int r4, .ref a, .ref b]) (d' := d - 1) (mc' := 0) (ms' := 0) [.ref (a + 12), .int (0 : Int32)] "LagSolver" k_X9_pick lk_X7_61 rfl rfl (Nat.le_of_ble_eq_true rfl) (by omega) (Nat.le_refl _) (Nat.le_refl _) d_X7_advance_58 ((sp_X9_pick (d := d - 1) (by omega) gS_12 hQ).mono (fun r w2 hr => ?_))
        obtain ⟨r7, rfl, rfl, hQ⟩ := hr
        refine x_iload 0 d_X7_advance_61 rfl ?_
        refine x_iload 1 d_X7_advance_63 rfl ?_
        refine x_isub d_X7_advance_65 ?_
        refine x_mmin lk_X7_52 jw_min_s iw_Math jw_min_c (Nat.le_of_ble_eq_true rfl) (by omega) d_X7_advance_66 ?_
        refine x_invV (rest := []) (d' := d - 1) (mc' := 0) (ms' := 0) [.ref a, .int r4, .int (if (x6 - r4) < r7 then (x6 - r4) else r7)] k_X7_takeStep lk_X7_65 (put_out (by omega) gP_0) rfl rfl rfl (Nat.le_of_ble_eq_true rfl) (by omega) (Nat.le_refl _) (Nat.le_refl _) d_X7_advance_69 ((sp_X7_takeStep (d := d - 1) (by omega) (by omega) hQ).mono (fun r w2 hr => ?_))
        obtain ⟨s8, s9, rfl, rfl, hQ⟩ := hr
        obtain ⟨x10, e_x10⟩ : ∃ z : Int32, z = x_3 + (1 : Int32) := ⟨_, rfl⟩
        have hQ := hQ x10 e_x10
        refine x_iinc (v := x10) (lv2 := [(3, .int x10), (5, .int x6), (4, .int r4), (0, .ref b), (1, .ref a), (2, .int u)]) 5 d_X7_advance_72 rfl (by rw [e_x10]; rfl) (by decide) rfl ?_
        refine x_goto (tgt := 7) d_X7_advance_75 (by decide) ?_
        refine x_sub [3, 4, 5, 0] (lv2 := [(0, .ref b), (1, .ref a), (2, .int u), (3, .int x10)]) rfl ?_
        exact ih x10 s8 s9 hQ
def wp_X7_advance (p : RT) (s : RT) (u : Int32) (K : RT → RT → Prop) : Prop := ∃ m : Nat, lp_X7_advance_7 u K m (0 : Int32) p s
set_option maxHeartbeats 4000000 in
theorem sp_X7_advance {G : GX} {l : Launch} {d : Nat} {w : HW} {a b : Nat} {p : RT} {s : RT} {u : Int32} {K : RT → RT → Prop} (hd : 6 ≤ d) (hx_0_1 : b + 7 ≤ a ∨ a + 19 ≤ b) (hQ : wp_X7_advance p s u K) : Sp G l m_X7_advance d 0 0 [.ref b, .ref a, .int u] (put (put w b 7 (shP b p)) a 19 (shS a s)) (fun r w2 => ∃ (z0 : RT), ∃ (z1 : RT), r = none ∧ w2 = put (put w b 7 (shP b z0)) a 19 (shS a z1) ∧ K z0 z1) := by
  refine Sp.ofX k_X7_advance.1.1 (Nat.le_of_ble_eq_true rfl) ?_
  refine X.lv (lv2 := [(0, .ref b), (1, .ref a), (2, .int u)]) rfl ?_
  refine x_aload_n 1 d_X7_advance_0 rfl rfl ?_
  refine x_ifnonnull (tgt := 5) d_X7_advance_1 (by decide) ?_
  refine x_iconst (v := (0 : Int32)) d_X7_advance_5 (by decide) ?_
  refine x_istore_n (lv2 := [(3, .int (0 : Int32)), (0, .ref b), (1, .ref a), (2, .int u)]) d_X7_advance_6 rfl (by decide) rfl ?_
  refine x_sub [1, 2, 3, 0] (lv2 := [(0, .ref b), (1, .ref a), (2, .int u), (3, .int (0 : Int32))]) rfl ?_
  obtain ⟨m, hQ⟩ := hQ
  exact jt_X7_advance_7 hd hx_0_1 m (0 : Int32) p s hQ
def lp_X7_rightSide_19 (s : RT) (i : Int32) (u : Int32) (K : Int32 → RT → Prop) : Nat → Int32 → Int32 → RT → Prop
  | 0, _, _, _ => False
  | n + 1, x_4, x_5, y_0 => (((3 : Int32) ≤ x_5 → wp_X7_gather y_0 s u u (fun (s3 : RT) => wp_X5_workOut s3 s i (fun (r4 : Int32) (s5 : RT) => K r4 s5))) ∧ (¬ (3 : Int32) ≤ x_5 → wp_X6_valueIn s x_4 x_5 u (fun (r6 : Int32) => wp_X9_put 3 (y_0.1 4) x_5 r6 (fun (f7 : Nat → Int32) => ∀ s8 : RT, s8 = rI y_0 4 f7 → ∀ x9 : Int32, x9 = x_5 + (1 : Int32) → lp_X7_rightSide_19 s i u K n x_4 x9 s8))))
set_option maxHeartbeats 4000000 in
theorem jt_X7_rightSide_19 {G : GX} {l : Launch} {d : Nat} {w : HW} {a b : Nat} {s : RT} {i : Int32} {u : Int32} {K : Int32 → RT → Prop} (hd : 5 ≤ d) (hx_0_1 : b + 7 ≤ a ∨ a + 19 ≤ b) : ∀ (n : Nat) (x_4 : Int32) (x_5 : Int32) (y_0 : RT), lp_X7_rightSide_19 s i u K n x_4 x_5 y_0 → X G l m_X7_rightSide d 0 0 0 0 19 [(0, .ref b), (1, .ref a), (2, .int i), (3, .int u), (4, .int x_4), (5, .int x_5)] [] (put (put w b 7 (shP b y_0)) a 19 (shS a s)) (fun r w2 => ∃ (r1 : Int32), ∃ (z0 : RT), r = some (.int r1) ∧ w2 = put (put w b 7 (shP b z0)) a 19 (shS a s) ∧ K r1 z0) := by
  intro n
  induction n with
  | zero =>
    intro x_4 x_5 y_0 hQ
    exact hQ.elim
  | succ n ih =>
    intro x_4 x_5 y_0 hQ
    refine x_iload 5 d_X7_rightSide_19 rfl ?_
    refine x_iconst (v := (3 : Int32)) d_X7_rightSide_21 (by decide) ?_
    refine x_icmp_ge (tgt := 49) d_X7_rightSide_22 (by decide) (fun c_22_2 => ?_) (fun c_22_2 => ?_)
    · have hQ := hQ.1 c_22_2
      refine x_aload_n 0 d_X7_rightSide_49 rfl rfl ?_
      refine x_aload_n 1 d_X7_rightSide_50 rfl rfl ?_
      refine x_iload_n 3 d_X7_rightSide_51 rfl rfl ?_
      refine x_iload_n 3 d_X7_rightSide_52 rfl rfl ?_
      refine x_invV (rest := []) (d' := d - 1) (mc' := 0) (ms' := 0) [.ref a, .int u, .int u] k_X7_gather lk_X7_76 (put_out (by omega) gP_0) rfl rfl rfl (Nat.le_of_ble_eq_true rfl) (by omega) (Nat.le_refl _) (Nat.le_refl _) d_X7_rightSide_53 ((sp_X7_gather (d := d - 1) (by omega) (by omega) hQ).mono (fun r w2 hr => ?_))
      obtain ⟨s3, rfl, rfl, hQ⟩ := hr
      refine x_aload_n 1 d_X7_rightSide_56 rfl rfl ?_
      refine x_getfN 0 gf_X7_99 gS_0 rfl d_X7_rightSide_57 ?_
      refine x_iload_n 2 d_X7_rightSide_60 rfl rfl ?_
      refine x_aload_n 0 d_X7_rightSide_61 rfl rfl ?_
      refine x_getf 0 gf_X7_9 (put_out (by omega) gP_0) rfl d_X7_rightSide_62 ?_
      refine x_aload_n 0 d_X7_rightSide_65 rfl rfl ?_
      refine x_getf 1 gf_X7_15 (put_out (by omega) gP_0) rfl d_X7_rightSide_66 ?_
      refine x_invV (rest := []) (d' := d - 1) (mc' := 0) (ms' := 0) [.int i, .ref (b + 1), .ref (b + 2)] k_X5_workOut lk_X7_121 gS_1 rfl rfl rfl (Nat.le_of_ble_eq_true rfl) (by omega) (Nat.le_refl _) (Nat.le_refl _) d_X7_rightSide_69 ((sp_X5_workOut (d := d - 1) (by omega) (by omega) hQ).mono (fun r w2 hr => ?_))
      obtain ⟨r4, s5, rfl, rfl, hQ⟩ := hr
      exact x_iret (retI d_X7_rightSide_72 rfl) ⟨_, _, rfl, rfl, hQ⟩
    · have hQ := hQ.2 c_22_2
      refine x_aload_n 0 d_X7_rightSide_25 rfl rfl ?_
      refine x_getf 3 gf_X7_21 (put_out (by omega) gP_0) rfl d_X7_rightSide_26 ?_
      refine x_iload 5 d_X7_rightSide_29 rfl ?_
      refine x_aload_n 1 d_X7_rightSide_31 rfl rfl ?_
      refine x_iload 4 d_X7_rightSide_32 rfl ?_
      refine x_iload 5 d_X7_rightSide_34 rfl ?_
      refine x_iload_n 3 d_X7_rightSide_36 rfl rfl ?_
      refine x_invV (rest := [.int x_5, .ref (b + 4)]) (d' := d - 1) (mc' := 0) (ms' := 0) [.int x_4, .int x_5, .int u] k_X6_valueIn lk_X7_128 gS_0 rfl rfl rfl (Nat.le_of_ble_eq_true rfl) (by omega) (Nat.le_refl _) (Nat.le_refl _) d_X7_rightSide_37 ((sp_X6_valueIn (d := d - 1) (by omega) hQ).mono (fun r w2 hr => ?_))
      obtain ⟨r6, rfl, rfl, hQ⟩ := hr
      refine x_invSN (rest := []) (d' := d - 1) (mc' := 0) (ms' := 0) [.ref (b + 4), .int x_5, .int r6] "LagSolver" k_X9_put lk_X7_72 rfl rfl (Nat.le_of_ble_eq_true rfl) (by omega) (Nat.le_refl _) (Nat.le_refl _) d_X7_rightSide_40 ((spa_X9_put (d := d - 1) (by omega) (put_out (by omega) gP_4) hQ).mono (fun r w2 hr => ?_))
      obtain ⟨f7, rfl, rfl, hQ⟩ := hr
      obtain ⟨s8, e_s8⟩ : ∃ z : RT, z = rI y_0 4 f7 := ⟨_, rfl⟩
      have hQ := hQ s8 e_s8
      refine X.world (w2 := put (put w b 7 (shP b s8)) a 19 (shS a s)) (by rw [e_s8]; exact (hset_out (by omega) sP_4)) ?_
      obtain ⟨x9, e_x9⟩ : ∃ z : Int32, z = x_5 + (1 : Int32) := ⟨_, rfl⟩
      have hQ := hQ x9 e_x9
      refine x_iinc (v := x9) (lv2 := [(5, .int x9), (0, .ref b), (1, .ref a), (2, .int i), (3, .int u), (4, .int x_4)]) 5 d_X7_rightSide_43 rfl (by rw [e_x9]; rfl) (by decide) rfl ?_
      refine x_goto (tgt := 19) d_X7_rightSide_46 (by decide) ?_
      refine x_sub [1, 2, 3, 4, 5, 0] (lv2 := [(0, .ref b), (1, .ref a), (2, .int i), (3, .int u), (4, .int x_4), (5, .int x9)]) rfl ?_
      exact ih x_4 x9 s8 hQ
def wp_X7_rightSide (p : RT) (s : RT) (i : Int32) (u : Int32) (K : Int32 → RT → Prop) : Prop := wp_X4_stepTo s u (fun (r1 : Int32) => ∃ m : Nat, lp_X7_rightSide_19 s i u K m r1 (0 : Int32) p)
set_option maxHeartbeats 4000000 in
theorem sp_X7_rightSide {G : GX} {l : Launch} {d : Nat} {w : HW} {a b : Nat} {p : RT} {s : RT} {i : Int32} {u : Int32} {K : Int32 → RT → Prop} (hd : 5 ≤ d) (hx_0_1 : b + 7 ≤ a ∨ a + 19 ≤ b) (hQ : wp_X7_rightSide p s i u K) : Sp G l m_X7_rightSide d 0 0 [.ref b, .ref a, .int i, .int u] (put (put w b 7 (shP b p)) a 19 (shS a s)) (fun r w2 => ∃ (r1 : Int32), ∃ (z0 : RT), r = some (.int r1) ∧ w2 = put (put w b 7 (shP b z0)) a 19 (shS a s) ∧ K r1 z0) := by
  refine Sp.ofX k_X7_rightSide.1.1 (Nat.le_of_ble_eq_true rfl) ?_
  refine X.lv (lv2 := [(0, .ref b), (1, .ref a), (2, .int i), (3, .int u)]) rfl ?_
  refine x_aload_n 1 d_X7_rightSide_0 rfl rfl ?_
  refine x_ifnonnull (tgt := 6) d_X7_rightSide_1 (by decide) ?_
  refine x_aload_n 1 d_X7_rightSide_6 rfl rfl ?_
  refine x_getfN 5 gf_X7_30 gS_0 rfl d_X7_rightSide_7 ?_
  refine x_iload_n 3 d_X7_rightSide_10 rfl rfl ?_
  refine x_invV (rest := []) (d' := d - 1) (mc' := 0) (ms' := 0) [.int u] k_X4_stepTo lk_X7_125 gS_17 rfl rfl rfl (Nat.le_of_ble_eq_true rfl) (by omega) (Nat.le_refl _) (Nat.le_refl _) d_X7_rightSide_11 ((sp_X4_stepTo (d := d - 1) (by omega) hQ).mono (fun r w2 hr => ?_))
  obtain ⟨r1, rfl, rfl, hQ⟩ := hr
  refine x_istore (lv2 := [(4, .int r1), (0, .ref b), (1, .ref a), (2, .int i), (3, .int u)]) d_X7_rightSide_14 (by decide) rfl ?_
  refine x_iconst (v := (0 : Int32)) d_X7_rightSide_16 (by decide) ?_
  refine x_istore (lv2 := [(5, .int (0 : Int32)), (4, .int r1), (0, .ref b), (1, .ref a), (2, .int i), (3, .int u)]) d_X7_rightSide_17 (by decide) rfl ?_
  refine x_sub [2, 3, 4, 5, 1, 0] (lv2 := [(0, .ref b), (1, .ref a), (2, .int i), (3, .int u), (4, .int r1), (5, .int (0 : Int32))]) rfl ?_
  obtain ⟨m, hQ⟩ := hQ
  exact jt_X7_rightSide_19 hd hx_0_1 m r1 (0 : Int32) p hQ
