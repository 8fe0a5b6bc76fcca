def wp_X8_isDigit (a0 : Int32) (K : Int32 → Prop) : Prop := wp_X9_isWithin a0 (48 : Int32) (57 : Int32) (fun (r1 : Int32) => (narrow .boolean (.int r1) = .int r1) ∧ K r1)
set_option maxHeartbeats 4000000 in
theorem sp_X8_isDigit {G : GX} {l : Launch} {d : Nat} {w : HW} {a0 : Int32} {K : Int32 → Prop} (hd : 1 ≤ d) (hQ : wp_X8_isDigit a0 K) : Sp G l m_X8_isDigit d 0 0 [.int a0] (w) (fun r w2 => ∃ (r1 : Int32), r = some (.int r1) ∧ w2 = w ∧ K r1) := by
  refine Sp.ofX k_X8_isDigit.1.1 (Nat.le_of_ble_eq_true rfl) ?_
  refine X.lv (lv2 := [(0, .int a0)]) rfl ?_
  refine x_iload_n 0 d_X8_isDigit_0 rfl rfl ?_
  refine x_bipush (v := (48 : Int32)) d_X8_isDigit_1 (by decide) ?_
  refine x_bipush (v := (57 : Int32)) d_X8_isDigit_3 (by decide) ?_
  refine x_invSN (rest := []) (d' := d - 1) (mc' := 0) (ms' := 0) [.int a0, .int (48 : Int32), .int (57 : Int32)] "LagSolver" k_X9_isWithin lk_X8_66 rfl rfl (Nat.le_of_ble_eq_true rfl) (by omega) (Nat.le_refl _) (Nat.le_refl _) d_X8_isDigit_5 ((sp_X9_isWithin (d := d - 1) (by omega) hQ).mono (fun r w2 hr => ?_))
  obtain ⟨r1, rfl, rfl, hQ⟩ := hr
  exact x_iret (retB d_X8_isDigit_8 rfl hQ.1) ⟨_, rfl, rfl, hQ.2⟩
def wp_X8_append (s : RT) (a0 : Int32) (K : Int32 → RT → Prop) : Prop := (((s.2.2 1) < (80 : Int32) → wp_X9_put 80 (s.1 1) (s.2.2 1) a0 (fun (f2 : Nat → Int32) => ∀ s3 : RT, s3 = rI s 1 f2 → ∀ s4 : RT, s4 = rS s3 1 ((s3.2.2 1) + (1 : Int32)) → K (1 : Int32) s4)) ∧ (¬ (s.2.2 1) < (80 : Int32) → K (0 : Int32) s))
set_option maxHeartbeats 4000000 in
theorem sp_X8_append {G : GX} {l : Launch} {d : Nat} {w : HW} {a : Nat} {s : RT} {a0 : Int32} {K : Int32 → RT → Prop} (hd : 1 ≤ d) (hQ : wp_X8_append s a0 K) : Sp G l m_X8_append d 0 0 [.ref a, .int a0] (put w a 3 (shT a s)) (fun r w2 => ∃ (r1 : Int32), ∃ (z0 : RT), r = some (.int r1) ∧ w2 = put w a 3 (shT a z0) ∧ K r1 z0) := by
  refine Sp.ofX k_X8_append.1.1 (Nat.le_of_ble_eq_true rfl) ?_
  refine X.lv (lv2 := [(0, .ref a), (1, .int a0)]) rfl ?_
  refine x_aload_n 0 d_X8_append_0 rfl rfl ?_
  refine x_getf 1 gf_X8_18 gT_0 rfl d_X8_append_1 ?_
  refine x_bipush (v := (80 : Int32)) d_X8_append_4 (by decide) ?_
  refine x_icmp_lt (tgt := 11) d_X8_append_6 (by decide) (fun c_6_1 => ?_) (fun c_6_1 => ?_)
  · have hQ := hQ.1 c_6_1
    refine x_aload_n 0 d_X8_append_11 rfl rfl ?_
    refine x_getf 0 gf_X8_9 gT_0 rfl d_X8_append_12 ?_
    refine x_aload_n 0 d_X8_append_15 rfl rfl ?_
    refine x_getf 1 gf_X8_18 gT_0 rfl d_X8_append_16 ?_
    refine x_iload_n 1 d_X8_append_19 rfl rfl ?_
    refine x_invSN (rest := []) (d' := d - 1) (mc' := 0) (ms' := 0) [.ref (a + 1), .int (s.2.2 1), .int a0] "LagSolver" k_X9_put lk_X8_22 rfl rfl (Nat.le_of_ble_eq_true rfl) (by omega) (Nat.le_refl _) (Nat.le_refl _) d_X8_append_20 ((spa_X9_put (d := d - 1) (by omega) gT_1 hQ).mono (fun r w2 hr => ?_))
    obtain ⟨f2, rfl, rfl, hQ⟩ := hr
    obtain ⟨s3, e_s3⟩ : ∃ z : RT, z = rI s 1 f2 := ⟨_, rfl⟩
    have hQ := hQ s3 e_s3
    refine X.world (w2 := put w a 3 (shT a s3)) (by rw [e_s3]; exact sT_1) ?_
    refine x_aload_n 0 d_X8_append_23 rfl rfl ?_
    refine x_dup d_X8_append_24 rfl ?_
    refine x_getf 1 gf_X8_18 gT_0 rfl d_X8_append_25 ?_
    refine x_iconst (v := (1 : Int32)) d_X8_append_28 (by decide) ?_
    refine x_iadd d_X8_append_29 ?_
    refine x_putf 1 (.int) pf_X8_18 gT_0 rfl rfl (Nat.le_of_ble_eq_true rfl) d_X8_append_30 ?_
    obtain ⟨s4, e_s4⟩ : ∃ z : RT, z = rS s3 1 ((s3.2.2 1) + (1 : Int32)) := ⟨_, rfl⟩
    have hQ := hQ s4 e_s4
    refine X.world (w2 := put w a 3 (shT a s4)) (by rw [e_s4]; exact sT_0_1) ?_
    refine x_iconst (v := (1 : Int32)) d_X8_append_33 (by decide) ?_
    exact x_iret (retB d_X8_append_34 rfl rfl) ⟨_, _, rfl, rfl, hQ⟩
  · have hQ := hQ.2 c_6_1
    refine x_iconst (v := (0 : Int32)) d_X8_append_9 (by decide) ?_
    exact x_iret (retB d_X8_append_10 rfl rfl) ⟨_, _, rfl, rfl, hQ⟩
def wp_X8_empty (s : RT) (K : RT → Prop) : Prop := ∀ s1 : RT, s1 = rS s 1 (0 : Int32) → K s1
set_option maxHeartbeats 4000000 in
theorem sp_X8_empty {G : GX} {l : Launch} {d : Nat} {w : HW} {a : Nat} {s : RT} {K : RT → Prop} (hd : 0 ≤ d) (hQ : wp_X8_empty s K) : Sp G l m_X8_empty d 0 0 [.ref a] (put w a 3 (shT a s)) (fun r w2 => ∃ (z0 : RT), r = none ∧ w2 = put w a 3 (shT a z0) ∧ K z0) := by
  refine Sp.ofX k_X8_empty.1.1 (Nat.le_of_ble_eq_true rfl) ?_
  refine X.lv (lv2 := [(0, .ref a)]) rfl ?_
  refine x_aload_n 0 d_X8_empty_0 rfl rfl ?_
  refine x_iconst (v := (0 : Int32)) d_X8_empty_1 (by decide) ?_
  refine x_putf 1 (.int) pf_X8_18 gT_0 rfl rfl (Nat.le_of_ble_eq_true rfl) d_X8_empty_2 ?_
  obtain ⟨s1, e_s1⟩ : ∃ z : RT, z = rS s 1 (0 : Int32) := ⟨_, rfl⟩
  have hQ := hQ s1 e_s1
  refine X.world (w2 := put w a 3 (shT a s1)) (by rw [e_s1]; exact sT_0_1) ?_
  exact x_vret (retV d_X8_empty_5 rfl) ⟨_, rfl, rfl, hQ⟩
def wp_X8_sign (s : RT) (K : Int32 → Prop) : Prop := (((s.2.2 1) ≤ (s.2.2 2) → K (0 : Int32)) ∧ (¬ (s.2.2 1) ≤ (s.2.2 2) → wp_X9_pick 80 (s.1 1) (s.2.2 2) (fun (r2 : Int32) => K r2)))
set_option maxHeartbeats 4000000 in
theorem sp_X8_sign {G : GX} {l : Launch} {d : Nat} {w : HW} {a : Nat} {s : RT} {K : Int32 → Prop} (hd : 1 ≤ d) (hQ : wp_X8_sign s K) : Sp G l m_X8_sign d 0 0 [.ref a] (put w a 3 (shT a s)) (fun r w2 => ∃ (r1 : Int32), r = some (.int r1) ∧ w2 = put w a 3 (shT a s) ∧ K r1) := by
  refine Sp.ofX k_X8_sign.1.1 (Nat.le_of_ble_eq_true rfl) ?_
  refine X.lv (lv2 := [(0, .ref a)]) rfl ?_
  refine x_aload_n 0 d_X8_sign_0 rfl rfl ?_
  refine x_getf 2 gf_X8_26 gT_0 rfl d_X8_sign_1 ?_
  refine x_aload_n 0 d_X8_sign_4 rfl rfl ?_
  refine x_getf 1 gf_X8_18 gT_0 rfl d_X8_sign_5 ?_
  refine x_icmp_ge (tgt := 25) d_X8_sign_8 (by decide) (fun c_8_1 => ?_) (fun c_8_1 => ?_)
  · have hQ := hQ.1 c_8_1
    refine x_iconst (v := (0 : Int32)) d_X8_sign_25 (by decide) ?_
    exact x_iret (retI d_X8_sign_26 rfl) ⟨_, rfl, rfl, hQ⟩
  · have hQ := hQ.2 c_8_1
    refine x_aload_n 0 d_X8_sign_11 rfl rfl ?_
    refine x_getf 0 gf_X8_9 gT_0 rfl d_X8_sign_12 ?_
    refine x_aload_n 0 d_X8_sign_15 rfl rfl ?_
    refine x_getf 2 gf_X8_26 gT_0 rfl d_X8_sign_16 ?_
    refine x_invSN (rest := []) (d' := d - 1) (mc' := 0) (ms' := 0) [.ref (a + 1), .int (s.2.2 2)] "LagSolver" k_X9_pick lk_X8_93 rfl rfl (Nat.le_of_ble_eq_true rfl) (by omega) (Nat.le_refl _) (Nat.le_refl _) d_X8_sign_19 ((sp_X9_pick (d := d - 1) (by omega) gT_1 hQ).mono (fun r w2 hr => ?_))
    obtain ⟨r2, rfl, rfl, hQ⟩ := hr
    refine x_goto (tgt := 26) d_X8_sign_22 (by decide) ?_
    exact x_iret (retI d_X8_sign_26 rfl) ⟨_, rfl, rfl, hQ⟩
def wp_X8_accept (s : RT) (a0 : Int32) (K : Int32 → RT → Prop) : Prop := wp_X8_sign s (fun (r1 : Int32) => ((r1 = a0 → ∀ s3 : RT, s3 = rS s 2 ((s.2.2 2) + (1 : Int32)) → K (1 : Int32) s3) ∧ (¬ r1 = a0 → K (0 : Int32) s)))
set_option maxHeartbeats 4000000 in
theorem sp_X8_accept {G : GX} {l : Launch} {d : Nat} {w : HW} {a : Nat} {s : RT} {a0 : Int32} {K : Int32 → RT → Prop} (hd : 2 ≤ d) (hQ : wp_X8_accept s a0 K) : Sp G l m_X8_accept d 0 0 [.ref a, .int a0] (put w a 3 (shT a s)) (fun r w2 => ∃ (r1 : Int32), ∃ (z0 : RT), r = some (.int r1) ∧ w2 = put w a 3 (shT a z0) ∧ K r1 z0) := by
  refine Sp.ofX k_X8_accept.1.1 (Nat.le_of_ble_eq_true rfl) ?_
  refine X.lv (lv2 := [(0, .ref a), (1, .int a0)]) rfl ?_
  refine x_aload_n 0 d_X8_accept_0 rfl rfl ?_
  refine x_invV (rest := []) (d' := d - 1) (mc' := 0) (ms' := 0) [] k_X8_sign lk_X8_42 gT_0 rfl rfl rfl (Nat.le_of_ble_eq_true rfl) (by omega) (Nat.le_refl _) (Nat.le_refl _) d_X8_accept_1 ((sp_X8_sign (d := d - 1) (by omega) hQ).mono (fun r w2 hr => ?_))
  obtain ⟨r1, rfl, rfl, hQ⟩ := hr
  refine x_iload_n 1 d_X8_accept_4 rfl rfl ?_
  refine x_icmp_eq (tgt := 10) d_X8_accept_5 (by decide) (fun c_5_2 => ?_) (fun c_5_2 => ?_)
  · have hQ := hQ.1 c_5_2
    refine x_aload_n 0 d_X8_accept_10 rfl rfl ?_
    refine x_dup d_X8_accept_11 rfl ?_
    refine x_getf 2 gf_X8_26 gT_0 rfl d_X8_accept_12 ?_
    refine x_iconst (v := (1 : Int32)) d_X8_accept_15 (by decide) ?_
    refine x_iadd d_X8_accept_16 ?_
    refine x_putf 2 (.int) pf_X8_26 gT_0 rfl rfl (Nat.le_of_ble_eq_true rfl) d_X8_accept_17 ?_
    obtain ⟨s3, e_s3⟩ : ∃ z : RT, z = rS s 2 ((s.2.2 2) + (1 : Int32)) := ⟨_, rfl⟩
    have hQ := hQ s3 e_s3
    refine X.world (w2 := put w a 3 (shT a s3)) (by rw [e_s3]; exact sT_0_2) ?_
    refine x_iconst (v := (1 : Int32)) d_X8_accept_20 (by decide) ?_
    exact x_iret (retB d_X8_accept_21 rfl rfl) ⟨_, _, rfl, rfl, hQ⟩
  · have hQ := hQ.2 c_5_2
    refine x_iconst (v := (0 : Int32)) d_X8_accept_8 (by decide) ?_
    exact x_iret (retB d_X8_accept_9 rfl rfl) ⟨_, _, rfl, rfl, hQ⟩
def wp_X8_emit (s : RT) (a0 : Int32) (a1 : Int32) (K : RT → Prop) : Prop := (((80 : Int32) ≤ (s.2.2 4) → K s) ∧ (¬ (80 : Int32) ≤ (s.2.2 4) → wp_X9_put 80 (s.1 2) (s.2.2 4) ((a1 <<< ((4 : Int32) &&& 31)) ||| a0) (fun (f2 : Nat → Int32) => ∀ s3 : RT, s3 = rI s 2 f2 → ∀ s4 : RT, s4 = rS s3 4 ((s3.2.2 4) + (1 : Int32)) → K s4)))
set_option maxHeartbeats 4000000 in
theorem sp_X8_emit {G : GX} {l : Launch} {d : Nat} {w : HW} {a : Nat} {s : RT} {a0 : Int32} {a1 : Int32} {K : RT → Prop} (hd : 1 ≤ d) (hQ : wp_X8_emit s a0 a1 K) : Sp G l m_X8_emit d 0 0 [.ref a, .int a0, .int a1] (put w a 3 (shT a s)) (fun r w2 => ∃ (z0 : RT), r = none ∧ w2 = put w a 3 (shT a z0) ∧ K z0) := by
  refine Sp.ofX k_X8_emit.1.1 (Nat.le_of_ble_eq_true rfl) ?_
  refine X.lv (lv2 := [(0, .ref a), (1, .int a0), (2, .int a1)]) rfl ?_
  refine x_aload_n 0 d_X8_emit_0 rfl rfl ?_
  refine x_getf 4 gf_X8_29 gT_0 rfl d_X8_emit_1 ?_
  refine x_bipush (v := (80 : Int32)) d_X8_emit_4 (by decide) ?_
  refine x_icmp_ge (tgt := 35) d_X8_emit_6 (by decide) (fun c_6_1 => ?_) (fun c_6_1 => ?_)
  · have hQ := hQ.1 c_6_1
    exact x_vret (retV d_X8_emit_35 rfl) ⟨_, rfl, rfl, hQ⟩
  · have hQ := hQ.2 c_6_1
    refine x_aload_n 0 d_X8_emit_9 rfl rfl ?_
    refine x_getf 3 gf_X8_15 gT_0 rfl d_X8_emit_10 ?_
    refine x_aload_n 0 d_X8_emit_13 rfl rfl ?_
    refine x_getf 4 gf_X8_29 gT_0 rfl d_X8_emit_14 ?_
    refine x_iload_n 2 d_X8_emit_17 rfl rfl ?_
    refine x_iconst (v := (4 : Int32)) d_X8_emit_18 (by decide) ?_
    refine x_ishl d_X8_emit_19 ?_
    refine x_iload_n 1 d_X8_emit_20 rfl rfl ?_
    refine x_ior d_X8_emit_21 ?_
    refine x_invSN (rest := []) (d' := d - 1) (mc' := 0) (ms' := 0) [.ref (a + 2), .int (s.2.2 4), .int ((a1 <<< ((4 : Int32) &&& 31)) ||| a0)] "LagSolver" k_X9_put lk_X8_22 rfl rfl (Nat.le_of_ble_eq_true rfl) (by omega) (Nat.le_refl _) (Nat.le_refl _) d_X8_emit_22 ((spa_X9_put (d := d - 1) (by omega) gT_2 hQ).mono (fun r w2 hr => ?_))
    obtain ⟨f2, rfl, rfl, hQ⟩ := hr
    obtain ⟨s3, e_s3⟩ : ∃ z : RT, z = rI s 2 f2 := ⟨_, rfl⟩
    have hQ := hQ s3 e_s3
    refine X.world (w2 := put w a 3 (shT a s3)) (by rw [e_s3]; exact sT_2) ?_
    refine x_aload_n 0 d_X8_emit_25 rfl rfl ?_
    refine x_dup d_X8_emit_26 rfl ?_
    refine x_getf 4 gf_X8_29 gT_0 rfl d_X8_emit_27 ?_
    refine x_iconst (v := (1 : Int32)) d_X8_emit_30 (by decide) ?_
    refine x_iadd d_X8_emit_31 ?_
    refine x_putf 4 (.int) pf_X8_29 gT_0 rfl rfl (Nat.le_of_ble_eq_true rfl) d_X8_emit_32 ?_
    obtain ⟨s4, e_s4⟩ : ∃ z : RT, z = rS s3 4 ((s3.2.2 4) + (1 : Int32)) := ⟨_, rfl⟩
    have hQ := hQ s4 e_s4
    refine X.world (w2 := put w a 3 (shT a s4)) (by rw [e_s4]; exact sT_0_4) ?_
    exact x_vret (retV d_X8_emit_35 rfl) ⟨_, rfl, rfl, hQ⟩
def wp_X8_emitOperand (s : RT) (a0 : Int32) (K : RT → Prop) : Prop := wp_X8_emit s (1 : Int32) a0 (fun (s1 : RT) => ∀ s2 : RT, s2 = rS s1 5 ((s1.2.2 5) ||| ((1 : Int32) <<< (a0 &&& 31))) → K s2)
set_option maxHeartbeats 4000000 in
theorem sp_X8_emitOperand {G : GX} {l : Launch} {d : Nat} {w : HW} {a : Nat} {s : RT} {a0 : Int32} {K : RT → Prop} (hd : 2 ≤ d) (hQ : wp_X8_emitOperand s a0 K) : Sp G l m_X8_emitOperand d 0 0 [.ref a, .int a0] (put w a 3 (shT a s)) (fun r w2 => ∃ (z0 : RT), r = none ∧ w2 = put w a 3 (shT a z0) ∧ K z0) := by
  refine Sp.ofX k_X8_emitOperand.1.1 (Nat.le_of_ble_eq_true rfl) ?_
  refine X.lv (lv2 := [(0, .ref a), (1, .int a0)]) rfl ?_
  refine x_aload_n 0 d_X8_emitOperand_0 rfl rfl ?_
  refine x_iconst (v := (1 : Int32)) d_X8_emitOperand_1 (by decide) ?_
  refine x_iload_n 1 d_X8_emitOperand_2 rfl rfl ?_
  refine x_invV (rest := []) (d' := d - 1) (mc' := 0) (ms' := 0) [.int (1 : Int32), .int a0] k_X8_emit lk_X8_46 gT_0 rfl rfl rfl (Nat.le_of_ble_eq_true rfl) (by omega) (Nat.le_refl _) (Nat.le_refl _) d_X8_emitOperand_3 ((sp_X8_emit (d := d - 1) (by omega) hQ).mono (fun r w2 hr => ?_))
  obtain ⟨s1, rfl, rfl, hQ⟩ := hr
  refine x_aload_n 0 d_X8_emitOperand_6 rfl rfl ?_
  refine x_dup d_X8_emitOperand_7 rfl ?_
  refine x_getf 5 gf_X8_32 gT_0 rfl d_X8_emitOperand_8 ?_
  refine x_iconst (v := (1 : Int32)) d_X8_emitOperand_11 (by decide) ?_
  refine x_iload_n 1 d_X8_emitOperand_12 rfl rfl ?_
  refine x_ishl d_X8_emitOperand_13 ?_
  refine x_ior d_X8_emitOperand_14 ?_
  refine x_putf 5 (.int) pf_X8_32 gT_0 rfl rfl (Nat.le_of_ble_eq_true rfl) d_X8_emitOperand_15 ?_
  obtain ⟨s2, e_s2⟩ : ∃ z : RT, z = rS s1 5 ((s1.2.2 5) ||| ((1 : Int32) <<< (a0 &&& 31))) := ⟨_, rfl⟩
  have hQ := hQ s2 e_s2
  refine X.world (w2 := put w a 3 (shT a s2)) (by rw [e_s2]; exact sT_0_5) ?_
  exact x_vret (retV d_X8_emitOperand_18 rfl) ⟨_, rfl, rfl, hQ⟩
def jp_X8_readNumber_128 (K : Int32 → RT → Prop) (x_1 : Int32) (y_0 : RT) : Prop := wp_X8_emit y_0 (0 : Int32) x_1 (fun (s6 : RT) => K (1 : Int32) s6)
set_option maxHeartbeats 4000000 in
theorem jt_X8_readNumber_128 {G : GX} {l : Launch} {d : Nat} {w : HW} {a : Nat} {K : Int32 → RT → Prop} (hd : 3 ≤ d) (x_1 : Int32) (y_0 : RT) (hQ : jp_X8_readNumber_128 K x_1 y_0) : X G l m_X8_readNumber d 0 0 0 0 128 [(0, .ref a), (1, .int x_1)] [] (put w a 3 (shT a y_0)) (fun r w2 => ∃ (r1 : Int32), ∃ (z0 : RT), r = some (.int r1) ∧ w2 = put w a 3 (shT a z0) ∧ K r1 z0) := by
  refine x_aload_n 0 d_X8_readNumber_128 rfl rfl ?_
  refine x_iconst (v := (0 : Int32)) d_X8_readNumber_129 (by decide) ?_
  refine x_iload_n 1 d_X8_readNumber_130 rfl rfl ?_
  refine x_invV (rest := []) (d' := d - 1) (mc' := 0) (ms' := 0) [.int (0 : Int32), .int x_1] k_X8_emit lk_X8_46 gT_0 rfl rfl rfl (Nat.le_of_ble_eq_true rfl) (by omega) (Nat.le_refl _) (Nat.le_refl _) d_X8_readNumber_131 ((sp_X8_emit (d := d - 1) (by omega) hQ).mono (fun r w2 hr => ?_))
  obtain ⟨s6, rfl, rfl, hQ⟩ := hr
  refine x_iconst (v := (1 : Int32)) d_X8_readNumber_134 (by decide) ?_
  exact x_iret (retB d_X8_readNumber_135 rfl rfl) ⟨_, _, rfl, rfl, hQ⟩
def lp_X8_readNumber_80 (K : Int32 → RT → Prop) : Nat → Int32 → Int32 → Int32 → RT → Prop
  | 0, _, _, _, _ => False
  | n + 1, x_1, x_2, x_3, y_0 => (((3 : Int32) ≤ x_3 → jp_X8_readNumber_128  K x_1 y_0) ∧ (¬ (3 : Int32) ≤ x_3 → wp_X8_sign y_0 (fun (r11 : Int32) => wp_X8_isDigit r11 (fun (r12 : Int32) => ((r12 = (0 : Int32) → jp_X8_readNumber_128  K x_1 y_0) ∧ (¬ r12 = (0 : Int32) → wp_X8_sign y_0 (fun (r14 : Int32) => ∀ x15 : Int32, x15 = x_1 + ((r14 - (48 : Int32)) * x_2) → ∀ x16 : Int32, x16 = x_2 / (10 : Int32) → ∀ s17 : RT, s17 = rS y_0 2 ((y_0.2.2 2) + (1 : Int32)) → ∀ x18 : Int32, x18 = x_3 + (1 : Int32) → lp_X8_readNumber_80  K n x15 x16 x18 s17)))))))
set_option maxHeartbeats 4000000 in
theorem jt_X8_readNumber_80 {G : GX} {l : Launch} {d : Nat} {w : HW} {a : Nat} {K : Int32 → RT → Prop} (hd : 3 ≤ d) : ∀ (n : Nat) (x_1 : Int32) (x_2 : Int32) (x_3 : Int32) (y_0 : RT), lp_X8_readNumber_80 K n x_1 x_2 x_3 y_0 → X G l m_X8_readNumber d 0 0 0 0 80 [(0, .ref a), (1, .int x_1), (2, .int x_2), (3, .int x_3)] [] (put w a 3 (shT a y_0)) (fun r w2 => ∃ (r1 : Int32), ∃ (z0 : RT), r = some (.int r1) ∧ w2 = put w a 3 (shT a z0) ∧ K r1 z0) := by
  intro n
  induction n with
  | zero =>
    intro x_1 x_2 x_3 y_0 hQ
    exact hQ.elim
  | succ n ih =>
    intro x_1 x_2 x_3 y_0 hQ
    refine x_iload_n 3 d_X8_readNumber_80 rfl rfl ?_
    refine x_iconst (v := (3 : Int32)) d_X8_readNumber_81 (by decide) ?_
    refine x_icmp_ge (tgt := 128) d_X8_readNumber_82 (by decide) (fun c_82_10 => ?_) (fun c_82_10 => ?_)
    · have hQ := hQ.1 c_82_10
      refine x_sub [0, 1] (lv2 := [(0, .ref a), (1, .int x_1)]) rfl ?_
      exact jt_X8_readNumber_128 hd x_1 y_0 hQ
    · have hQ := hQ.2 c_82_10
      refine x_aload_n 0 d_X8_readNumber_85 rfl rfl ?_
      refine x_invV (rest := []) (d' := d - 1) (mc' := 0) (ms' := 0) [] k_X8_sign lk_X8_42 gT_0 rfl rfl rfl (Nat.le_of_ble_eq_true rfl) (by omega) (Nat.le_refl _) (Nat.le_refl _) d_X8_readNumber_86 ((sp_X8_sign (d := d - 1) (by omega) hQ).mono (fun r w2 hr => ?_))
      obtain ⟨r11, rfl, rfl, hQ⟩ := hr
      refine x_invS (rest := []) (d' := d - 1) (mc' := 0) (ms' := 0) [.int r11] k_X8_isDigit lk_X8_59 rfl rfl (Nat.le_of_ble_eq_true rfl) (by omega) (Nat.le_refl _) (Nat.le_refl _) d_X8_readNumber_89 ((sp_X8_isDigit (d := d - 1) (by omega) hQ).mono (fun r w2 hr => ?_))
      obtain ⟨r12, rfl, rfl, hQ⟩ := hr
      refine x_if_eq (tgt := 128) d_X8_readNumber_92 (by decide) (fun c_92_13 => ?_) (fun c_92_13 => ?_)
      · have hQ := hQ.1 c_92_13
        refine x_sub [0, 1] (lv2 := [(0, .ref a), (1, .int x_1)]) rfl ?_
        exact jt_X8_readNumber_128 hd x_1 y_0 hQ
      · have hQ := hQ.2 c_92_13
        refine x_iload_n 1 d_X8_readNumber_95 rfl rfl ?_
        refine x_aload_n 0 d_X8_readNumber_96 rfl rfl ?_
        refine x_invV (rest := [.int x_1]) (d' := d - 1) (mc' := 0) (ms' := 0) [] k_X8_sign lk_X8_42 gT_0 rfl rfl rfl (Nat.le_of_ble_eq_true rfl) (by omega) (Nat.le_refl _) (Nat.le_refl _) d_X8_readNumber_97 ((sp_X8_sign (d := d - 1) (by omega) hQ).mono (fun r w2 hr => ?_))
        obtain ⟨r14, rfl, rfl, hQ⟩ := hr
        refine x_bipush (v := (48 : Int32)) d_X8_readNumber_100 (by decide) ?_
        refine x_isub d_X8_readNumber_102 ?_
        refine x_iload_n 2 d_X8_readNumber_103 rfl rfl ?_
        refine x_imul d_X8_readNumber_104 ?_
        refine x_iadd d_X8_readNumber_105 ?_
        refine x_topi (fun x15 e_x15 => ?_)
        have hQ := hQ x15 e_x15
        refine x_istore_n (lv2 := [(1, .int x15), (0, .ref a), (2, .int x_2), (3, .int x_3)]) d_X8_readNumber_106 rfl (by decide) rfl ?_
        refine x_iload_n 2 d_X8_readNumber_107 rfl rfl ?_
        refine x_bipush (v := (10 : Int32)) d_X8_readNumber_108 (by decide) ?_
        refine x_idiv d_X8_readNumber_110 (by decide) ?_
        refine x_topi (fun x16 e_x16 => ?_)
        have hQ := hQ x16 e_x16
        refine x_istore_n (lv2 := [(2, .int x16), (1, .int x15), (0, .ref a), (3, .int x_3)]) d_X8_readNumber_111 rfl (by decide) rfl ?_
        refine x_aload_n 2 d_X8_readNumber_112 rfl rfl ?_
        refine x_dup d_X8_readNumber_113 rfl ?_
        refine x_getf 2 gf_X8_26 gT_0 rfl d_X8_readNumber_114 ?_
        refine x_iconst (v := (1 : Int32)) d_X8_readNumber_117 (by decide) ?_
        refine x_iadd d_X8_readNumber_118 ?_
        refine x_putf 2 (.int) pf_X8_26 gT_0 rfl rfl (Nat.le_of_ble_eq_true rfl) d_X8_readNumber_119 ?_
        obtain ⟨s17, e_s17⟩ : ∃ z : RT, z = rS y_0 2 ((y_0.2.2 2) + (1 : Int32)) := ⟨_, rfl⟩
        have hQ := hQ s17 e_s17
        refine X.world (w2 := put w a 3 (shT a s17)) (by rw [e_s17]; exact sT_0_2) ?_
        obtain ⟨x18, e_x18⟩ : ∃ z : Int32, z = x_3 + (1 : Int32) := ⟨_, rfl⟩
        have hQ := hQ x18 e_x18
        refine x_iinc (v := x18) (lv2 := [(3, .int x18), (2, .int x16), (1, .int x15), (0, .ref a)]) 3 d_X8_readNumber_122 rfl (by rw [e_x18]; rfl) (by decide) rfl ?_
        refine x_goto (tgt := 80) d_X8_readNumber_125 (by decide) ?_
        refine x_sub [3, 2, 1, 0] (lv2 := [(0, .ref a), (1, .int x15), (2, .int x16), (3, .int x18)]) rfl ?_
        exact ih x15 x16 x18 s17 hQ
def jp_X8_readNumber_48 (K : Int32 → RT → Prop) (x_1 : Int32) (y_0 : RT) : Prop := ∀ x2 : Int32, x2 = x_1 * (1000 : Int32) → wp_X8_accept y_0 (46 : Int32) (fun (r3 : Int32) (s4 : RT) => ((r3 = (0 : Int32) → jp_X8_readNumber_128  K x2 s4) ∧ (¬ r3 = (0 : Int32) → wp_X8_sign s4 (fun (r7 : Int32) => wp_X8_isDigit r7 (fun (r8 : Int32) => ((¬ r8 = (0 : Int32) → ∃ m : Nat, lp_X8_readNumber_80  K m x2 (100 : Int32) (0 : Int32) s4) ∧ (r8 = (0 : Int32) → K (0 : Int32) s4)))))))
set_option maxHeartbeats 4000000 in
theorem jt_X8_readNumber_48 {G : GX} {l : Launch} {d : Nat} {w : HW} {a : Nat} {K : Int32 → RT → Prop} (hd : 3 ≤ d) (x_1 : Int32) (y_0 : RT) (hQ : jp_X8_readNumber_48 K x_1 y_0) : X G l m_X8_readNumber d 0 0 0 0 48 [(0, .ref a), (1, .int x_1)] [] (put w a 3 (shT a y_0)) (fun r w2 => ∃ (r1 : Int32), ∃ (z0 : RT), r = some (.int r1) ∧ w2 = put w a 3 (shT a z0) ∧ K r1 z0) := by
  refine x_iload_n 1 d_X8_readNumber_48 rfl rfl ?_
  refine x_sipush (v := (1000 : Int32)) d_X8_readNumber_49 (by decide) ?_
  refine x_imul d_X8_readNumber_52 ?_
  refine x_topi (fun x2 e_x2 => ?_)
  have hQ := hQ x2 e_x2
  refine x_istore_n (lv2 := [(1, .int x2), (0, .ref a)]) d_X8_readNumber_53 rfl (by decide) rfl ?_
  refine x_aload_n 1 d_X8_readNumber_54 rfl rfl ?_
  refine x_bipush (v := (46 : Int32)) d_X8_readNumber_55 (by decide) ?_
  refine x_invV (rest := []) (d' := d - 1) (mc' := 0) (ms' := 0) [.int (46 : Int32)] k_X8_accept lk_X8_53 gT_0 rfl rfl rfl (Nat.le_of_ble_eq_true rfl) (by omega) (Nat.le_refl _) (Nat.le_refl _) d_X8_readNumber_57 ((sp_X8_accept (d := d - 1) (by omega) hQ).mono (fun r w2 hr => ?_))
  obtain ⟨r3, s4, rfl, rfl, hQ⟩ := hr
  refine x_if_eq (tgt := 128) d_X8_readNumber_60 (by decide) (fun c_60_5 => ?_) (fun c_60_5 => ?_)
  · have hQ := hQ.1 c_60_5
    refine x_sub [1, 0] (lv2 := [(0, .ref a), (1, .int x2)]) rfl ?_
    exact jt_X8_readNumber_128 hd x2 s4 hQ
  · have hQ := hQ.2 c_60_5
    refine x_aload_n 1 d_X8_readNumber_63 rfl rfl ?_
    refine x_invV (rest := []) (d' := d - 1) (mc' := 0) (ms' := 0) [] k_X8_sign lk_X8_42 gT_0 rfl rfl rfl (Nat.le_of_ble_eq_true rfl) (by omega) (Nat.le_refl _) (Nat.le_refl _) d_X8_readNumber_64 ((sp_X8_sign (d := d - 1) (by omega) hQ).mono (fun r w2 hr => ?_))
    obtain ⟨r7, rfl, rfl, hQ⟩ := hr
    refine x_invS (rest := []) (d' := d - 1) (mc' := 0) (ms' := 0) [.int r7] k_X8_isDigit lk_X8_59 rfl rfl (Nat.le_of_ble_eq_true rfl) (by omega) (Nat.le_refl _) (Nat.le_refl _) d_X8_readNumber_67 ((sp_X8_isDigit (d := d - 1) (by omega) hQ).mono (fun r w2 hr => ?_))
    obtain ⟨r8, rfl, rfl, hQ⟩ := hr
    refine x_if_ne (tgt := 75) d_X8_readNumber_70 (by decide) (fun c_70_9 => ?_) (fun c_70_9 => ?_)
    · have hQ := hQ.1 c_70_9
      refine x_bipush (v := (100 : Int32)) d_X8_readNumber_75 (by decide) ?_
      refine x_istore_n (lv2 := [(2, .int (100 : Int32)), (1, .int x2), (0, .ref a)]) d_X8_readNumber_77 rfl (by decide) rfl ?_
      refine x_iconst (v := (0 : Int32)) d_X8_readNumber_78 (by decide) ?_
      refine x_istore_n (lv2 := [(3, .int (0 : Int32)), (2, .int (100 : Int32)), (1, .int x2), (0, .ref a)]) d_X8_readNumber_79 rfl (by decide) rfl ?_
      refine x_sub [3, 2, 1, 0] (lv2 := [(0, .ref a), (1, .int x2), (2, .int (100 : Int32)), (3, .int (0 : Int32))]) rfl ?_
      obtain ⟨m, hQ⟩ := hQ
      exact jt_X8_readNumber_80 hd m x2 (100 : Int32) (0 : Int32) s4 hQ
    · have hQ := hQ.2 c_70_9
      refine x_iconst (v := (0 : Int32)) d_X8_readNumber_73 (by decide) ?_
      exact x_iret (retB d_X8_readNumber_74 rfl rfl) ⟨_, _, rfl, rfl, hQ⟩
def lp_X8_readNumber_4 (K : Int32 → RT → Prop) : Nat → Int32 → Int32 → RT → Prop
  | 0, _, _, _ => False
  | n + 1, x_1, x_2, y_0 => (((4 : Int32) ≤ x_2 → jp_X8_readNumber_48  K x_1 y_0) ∧ (¬ (4 : Int32) ≤ x_2 → wp_X8_sign y_0 (fun (r19 : Int32) => wp_X8_isDigit r19 (fun (r20 : Int32) => ((r20 = (0 : Int32) → jp_X8_readNumber_48  K x_1 y_0) ∧ (¬ r20 = (0 : Int32) → wp_X8_sign y_0 (fun (r22 : Int32) => ∀ x23 : Int32, x23 = ((x_1 * (10 : Int32)) + r22) - (48 : Int32) → ∀ s24 : RT, s24 = rS y_0 2 ((y_0.2.2 2) + (1 : Int32)) → ∀ x25 : Int32, x25 = x_2 + (1 : Int32) → lp_X8_readNumber_4  K n x23 x25 s24)))))))
set_option maxHeartbeats 4000000 in
theorem jt_X8_readNumber_4 {G : GX} {l : Launch} {d : Nat} {w : HW} {a : Nat} {K : Int32 → RT → Prop} (hd : 3 ≤ d) : ∀ (n : Nat) (x_1 : Int32) (x_2 : Int32) (y_0 : RT), lp_X8_readNumber_4 K n x_1 x_2 y_0 → X G l m_X8_readNumber d 0 0 0 0 4 [(0, .ref a), (1, .int x_1), (2, .int x_2)] [] (put w a 3 (shT a y_0)) (fun r w2 => ∃ (r1 : Int32), ∃ (z0 : RT), r = some (.int r1) ∧ w2 = put w a 3 (shT a z0) ∧ K r1 z0) := by
  intro n
  induction n with
  | zero =>
    intro x_1 x_2 y_0 hQ
    exact hQ.elim
  | succ n ih =>
    intro x_1 x_2 y_0 hQ
    refine x_iload_n 2 d_X8_readNumber_4 rfl rfl ?_
    refine x_iconst (v := (4 : Int32)) d_X8_readNumber_5 (by decide) ?_
    refine x_icmp_ge (tgt := 48) d_X8_readNumber_6 (by decide) (fun c_6_1 => ?_) (fun c_6_1 => ?_)
    · have hQ := hQ.1 c_6_1
      refine x_sub [0, 1] (lv2 := [(0, .ref a), (1, .int x_1)]) rfl ?_
      exact jt_X8_readNumber_48 hd x_1 y_0 hQ
    · have hQ := hQ.2 c_6_1
      refine x_aload_n 0 d_X8_readNumber_9 rfl rfl ?_
      refine x_invV (rest := []) (d' := d - 1) (mc' := 0) (ms' := 0) [] k_X8_sign lk_X8_42 gT_0 rfl rfl rfl (Nat.le_of_ble_eq_true rfl) (by omega) (Nat.le_refl _) (Nat.le_refl _) d_X8_readNumber_10 ((sp_X8_sign (d := d - 1) (by omega) hQ).mono (fun r w2 hr => ?_))
      obtain ⟨r19, rfl, rfl, hQ⟩ := hr
      refine x_invS (rest := []) (d' := d - 1) (mc' := 0) (ms' := 0) [.int r19] k_X8_isDigit lk_X8_59 rfl rfl (Nat.le_of_ble_eq_true rfl) (by omega) (Nat.le_refl _) (Nat.le_refl _) d_X8_readNumber_13 ((sp_X8_isDigit (d := d - 1) (by omega) hQ).mono (fun r w2 hr => ?_))
      obtain ⟨r20, rfl, rfl, hQ⟩ := hr
      refine x_if_eq (tgt := 48) d_X8_readNumber_16 (by decide) (fun c_16_21 => ?_) (fun c_16_21 => ?_)
      · have hQ := hQ.1 c_16_21
        refine x_sub [0, 1] (lv2 := [(0, .ref a), (1, .int x_1)]) rfl ?_
        exact jt_X8_readNumber_48 hd x_1 y_0 hQ
      · have hQ := hQ.2 c_16_21
        refine x_iload_n 1 d_X8_readNumber_19 rfl rfl ?_
        refine x_bipush (v := (10 : Int32)) d_X8_readNumber_20 (by decide) ?_
        refine x_imul d_X8_readNumber_22 ?_
        refine x_aload_n 0 d_X8_readNumber_23 rfl rfl ?_
        refine x_invV (rest := [.int (x_1 * (10 : Int32))]) (d' := d - 1) (mc' := 0) (ms' := 0) [] k_X8_sign lk_X8_42 gT_0 rfl rfl rfl (Nat.le_of_ble_eq_true rfl) (by omega) (Nat.le_refl _) (Nat.le_refl _) d_X8_readNumber_24 ((sp_X8_sign (d := d - 1) (by omega) hQ).mono (fun r w2 hr => ?_))
        obtain ⟨r22, rfl, rfl, hQ⟩ := hr
        refine x_iadd d_X8_readNumber_27 ?_
        refine x_bipush (v := (48 : Int32)) d_X8_readNumber_28 (by decide) ?_
        refine x_isub d_X8_readNumber_30 ?_
        refine x_topi (fun x23 e_x23 => ?_)
        have hQ := hQ x23 e_x23
        refine x_istore_n (lv2 := [(1, .int x23), (0, .ref a), (2, .int x_2)]) d_X8_readNumber_31 rfl (by decide) rfl ?_
        refine x_aload_n 1 d_X8_readNumber_32 rfl rfl ?_
        refine x_dup d_X8_readNumber_33 rfl ?_
        refine x_getf 2 gf_X8_26 gT_0 rfl d_X8_readNumber_34 ?_
        refine x_iconst (v := (1 : Int32)) d_X8_readNumber_37 (by decide) ?_
        refine x_iadd d_X8_readNumber_38 ?_
        refine x_putf 2 (.int) pf_X8_26 gT_0 rfl rfl (Nat.le_of_ble_eq_true rfl) d_X8_readNumber_39 ?_
        obtain ⟨s24, e_s24⟩ : ∃ z : RT, z = rS y_0 2 ((y_0.2.2 2) + (1 : Int32)) := ⟨_, rfl⟩
        have hQ := hQ s24 e_s24
        refine X.world (w2 := put w a 3 (shT a s24)) (by rw [e_s24]; exact sT_0_2) ?_
        obtain ⟨x25, e_x25⟩ : ∃ z : Int32, z = x_2 + (1 : Int32) := ⟨_, rfl⟩
        have hQ := hQ x25 e_x25
        refine x_iinc (v := x25) (lv2 := [(2, .int x25), (1, .int x23), (0, .ref a)]) 2 d_X8_readNumber_42 rfl (by rw [e_x25]; rfl) (by decide) rfl ?_
        refine x_goto (tgt := 4) d_X8_readNumber_45 (by decide) ?_
        refine x_sub [2, 1, 0] (lv2 := [(0, .ref a), (1, .int x23), (2, .int x25)]) rfl ?_
        exact ih x23 x25 s24 hQ
def wp_X8_readNumber (s : RT) (K : Int32 → RT → Prop) : Prop := ∃ m : Nat, lp_X8_readNumber_4  K m (0 : Int32) (0 : Int32) s
set_option maxHeartbeats 4000000 in
theorem sp_X8_readNumber {G : GX} {l : Launch} {d : Nat} {w : HW} {a : Nat} {s : RT} {K : Int32 → RT → Prop} (hd : 3 ≤ d) (hQ : wp_X8_readNumber s K) : Sp G l m_X8_readNumber d 0 0 [.ref a] (put w a 3 (shT a s)) (fun r w2 => ∃ (r1 : Int32), ∃ (z0 : RT), r = some (.int r1) ∧ w2 = put w a 3 (shT a z0) ∧ K r1 z0) := by
  refine Sp.ofX k_X8_readNumber.1.1 (Nat.le_of_ble_eq_true rfl) ?_
  refine X.lv (lv2 := [(0, .ref a)]) rfl ?_
  refine x_iconst (v := (0 : Int32)) d_X8_readNumber_0 (by decide) ?_
  refine x_istore_n (lv2 := [(1, .int (0 : Int32)), (0, .ref a)]) d_X8_readNumber_1 rfl (by decide) rfl ?_
  refine x_iconst (v := (0 : Int32)) d_X8_readNumber_2 (by decide) ?_
  refine x_istore_n (lv2 := [(2, .int (0 : Int32)), (1, .int (0 : Int32)), (0, .ref a)]) d_X8_readNumber_3 rfl (by decide) rfl ?_
  refine x_sub [2, 1, 0] (lv2 := [(0, .ref a), (1, .int (0 : Int32)), (2, .int (0 : Int32))]) rfl ?_
  obtain ⟨m, hQ⟩ := hQ
  exact jt_X8_readNumber_4 hd m (0 : Int32) (0 : Int32) s hQ
def wp_X8_readName (s : RT) (K : Int32 → RT → Prop) : Prop := wp_X8_sign s (fun (r1 : Int32) => ∀ x2 : Int32, x2 = r1 - (120 : Int32) → ∀ s3 : RT, s3 = rS s 2 ((s.2.2 2) + (1 : Int32)) → wp_X8_accept s3 (39 : Int32) (fun (r4 : Int32) (s5 : RT) => wp_X8_accept s5 (64 : Int32) (fun (r6 : Int32) (s7 : RT) => ((¬ r6 = (0 : Int32) → wp_X8_sign s7 (fun (r9 : Int32) => ∀ x10 : Int32, x10 = r9 - (48 : Int32) → wp_X9_isDelay x10 (fun (r11 : Int32) => ((¬ r11 = (0 : Int32) → ∀ s13 : RT, s13 = rS s7 2 ((s7.2.2 2) + (1 : Int32)) → ((r4 = (0 : Int32) → wp_X9_pastOperand x10 x2 (fun (r15 : Int32) => wp_X8_emitOperand s13 r15 (fun (s16 : RT) => K (1 : Int32) s16))) ∧ (¬ r4 = (0 : Int32) → wp_X9_slopeOperand x10 x2 (fun (r17 : Int32) => wp_X8_emitOperand s13 r17 (fun (s18 : RT) => K (1 : Int32) s18))))) ∧ (r11 = (0 : Int32) → K (0 : Int32) s7))))) ∧ (r6 = (0 : Int32) → wp_X8_emitOperand s7 x2 (fun (s19 : RT) => ((¬ r4 = (0 : Int32) → K (0 : Int32) s19) ∧ (r4 = (0 : Int32) → K (1 : Int32) s19))))))))
set_option maxHeartbeats 4000000 in
theorem sp_X8_readName {G : GX} {l : Launch} {d : Nat} {w : HW} {a : Nat} {s : RT} {K : Int32 → RT → Prop} (hd : 3 ≤ d) (hQ : wp_X8_readName s K) : Sp G l m_X8_readName d 0 0 [.ref a] (put w a 3 (shT a s)) (fun r w2 => ∃ (r1 : Int32), ∃ (z0 : RT), r = some (.int r1) ∧ w2 = put w a 3 (shT a z0) ∧ K r1 z0) := by
  refine Sp.ofX k_X8_readName.1.1 (Nat.le_of_ble_eq_true rfl) ?_
  refine X.lv (lv2 := [(0, .ref a)]) rfl ?_
  refine x_aload_n 0 d_X8_readName_0 rfl rfl ?_
  refine x_invV (rest := []) (d' := d - 1) (mc' := 0) (ms' := 0) [] k_X8_sign lk_X8_42 gT_0 rfl rfl rfl (Nat.le_of_ble_eq_true rfl) (by omega) (Nat.le_refl _) (Nat.le_refl _) d_X8_readName_1 ((sp_X8_sign (d := d - 1) (by omega) hQ).mono (fun r w2 hr => ?_))
  obtain ⟨r1, rfl, rfl, hQ⟩ := hr
  refine x_bipush (v := (120 : Int32)) d_X8_readName_4 (by decide) ?_
  refine x_isub d_X8_readName_6 ?_
  refine x_topi (fun x2 e_x2 => ?_)
  have hQ := hQ x2 e_x2
  refine x_istore_n (lv2 := [(1, .int x2), (0, .ref a)]) d_X8_readName_7 rfl (by decide) rfl ?_
  refine x_aload_n 1 d_X8_readName_8 rfl rfl ?_
  refine x_dup d_X8_readName_9 rfl ?_
  refine x_getf 2 gf_X8_26 gT_0 rfl d_X8_readName_10 ?_
  refine x_iconst (v := (1 : Int32)) d_X8_readName_13 (by decide) ?_
  refine x_iadd d_X8_readName_14 ?_
  refine x_putf 2 (.int) pf_X8_26 gT_0 rfl rfl (Nat.le_of_ble_eq_true rfl) d_X8_readName_15 ?_
  obtain ⟨s3, e_s3⟩ : ∃ z : RT, z = rS s 2 ((s.2.2 2) + (1 : Int32)) := ⟨_, rfl⟩
  have hQ := hQ s3 e_s3
  refine X.world (w2 := put w a 3 (shT a s3)) (by rw [e_s3]; exact sT_0_2) ?_
  refine x_aload_n 1 d_X8_readName_18 rfl rfl ?_
  refine x_bipush (v := (39 : Int32)) d_X8_readName_19 (by decide) ?_
  refine x_invV (rest := []) (d' := d - 1) (mc' := 0) (ms' := 0) [.int (39 : Int32)] k_X8_accept lk_X8_53 gT_0 rfl rfl rfl (Nat.le_of_ble_eq_true rfl) (by omega) (Nat.le_refl _) (Nat.le_refl _) d_X8_readName_21 ((sp_X8_accept (d := d - 1) (by omega) hQ).mono (fun r w2 hr => ?_))
  obtain ⟨r4, s5, rfl, rfl, hQ⟩ := hr
  refine x_istore_n (lv2 := [(2, .int r4), (1, .int x2), (0, .ref a)]) d_X8_readName_24 rfl (by decide) rfl ?_
  refine x_aload_n 2 d_X8_readName_25 rfl rfl ?_
  refine x_bipush (v := (64 : Int32)) d_X8_readName_26 (by decide) ?_
  refine x_invV (rest := []) (d' := d - 1) (mc' := 0) (ms' := 0) [.int (64 : Int32)] k_X8_accept lk_X8_53 gT_0 rfl rfl rfl (Nat.le_of_ble_eq_true rfl) (by omega) (Nat.le_refl _) (Nat.le_refl _) d_X8_readName_28 ((sp_X8_accept (d := d - 1) (by omega) hQ).mono (fun r w2 hr => ?_))
  obtain ⟨r6, s7, rfl, rfl, hQ⟩ := hr
  refine x_if_ne (tgt := 49) d_X8_readName_31 (by decide) (fun c_31_8 => ?_) (fun c_31_8 => ?_)
  · have hQ := hQ.1 c_31_8
    refine x_aload_n 2 d_X8_readName_49 rfl rfl ?_
    refine x_invV (rest := []) (d' := d - 1) (mc' := 0) (ms' := 0) [] k_X8_sign lk_X8_42 gT_0 rfl rfl rfl (Nat.le_of_ble_eq_true rfl) (by omega) (Nat.le_refl _) (Nat.le_refl _) d_X8_readName_50 ((sp_X8_sign (d := d - 1) (by omega) hQ).mono (fun r w2 hr => ?_))
    obtain ⟨r9, rfl, rfl, hQ⟩ := hr
    refine x_bipush (v := (48 : Int32)) d_X8_readName_53 (by decide) ?_
    refine x_isub d_X8_readName_55 ?_
    refine x_topi (fun x10 e_x10 => ?_)
    have hQ := hQ x10 e_x10
    refine x_istore_n (lv2 := [(3, .int x10), (2, .int r4), (1, .int x2), (0, .ref a)]) d_X8_readName_56 rfl (by decide) rfl ?_
    refine x_iload_n 0 d_X8_readName_57 rfl rfl ?_
    refine x_invSN (rest := []) (d' := d - 1) (mc' := 0) (ms' := 0) [.int x10] "LagSolver" k_X9_isDelay lk_X8_83 rfl rfl (Nat.le_of_ble_eq_true rfl) (by omega) (Nat.le_refl _) (Nat.le_refl _) d_X8_readName_58 ((sp_X9_isDelay (d := d - 1) (by omega) hQ).mono (fun r w2 hr => ?_))
    obtain ⟨r11, rfl, rfl, hQ⟩ := hr
    refine x_if_ne (tgt := 66) d_X8_readName_61 (by decide) (fun c_61_12 => ?_) (fun c_61_12 => ?_)
    · have hQ := hQ.1 c_61_12
      refine x_aload_n 3 d_X8_readName_66 rfl rfl ?_
      refine x_dup d_X8_readName_67 rfl ?_
      refine x_getf 2 gf_X8_26 gT_0 rfl d_X8_readName_68 ?_
      refine x_iconst (v := (1 : Int32)) d_X8_readName_71 (by decide) ?_
      refine x_iadd d_X8_readName_72 ?_
      refine x_putf 2 (.int) pf_X8_26 gT_0 rfl rfl (Nat.le_of_ble_eq_true rfl) d_X8_readName_73 ?_
      obtain ⟨s13, e_s13⟩ : ∃ z : RT, z = rS s7 2 ((s7.2.2 2) + (1 : Int32)) := ⟨_, rfl⟩
      have hQ := hQ s13 e_s13
      refine X.world (w2 := put w a 3 (shT a s13)) (by rw [e_s13]; exact sT_0_2) ?_
      refine x_aload_n 3 d_X8_readName_76 rfl rfl ?_
      refine x_iload_n 1 d_X8_readName_77 rfl rfl ?_
      refine x_if_eq (tgt := 89) d_X8_readName_78 (by decide) (fun c_78_14 => ?_) (fun c_78_14 => ?_)
      · have hQ := hQ.1 c_78_14
        refine x_iload_n 0 d_X8_readName_89 rfl rfl ?_
        refine x_iload_n 2 d_X8_readName_90 rfl rfl ?_
        refine x_invSN (rest := [.ref a]) (d' := d - 1) (mc' := 0) (ms' := 0) [.int x10, .int x2] "LagSolver" k_X9_pastOperand lk_X8_90 rfl rfl (Nat.le_of_ble_eq_true rfl) (by omega) (Nat.le_refl _) (Nat.le_refl _) d_X8_readName_91 ((sp_X9_pastOperand (d := d - 1) (by omega) hQ).mono (fun r w2 hr => ?_))
        obtain ⟨r15, rfl, rfl, hQ⟩ := hr
        refine x_invV (rest := []) (d' := d - 1) (mc' := 0) (ms' := 0) [.int r15] k_X8_emitOperand lk_X8_73 gT_0 rfl rfl rfl (Nat.le_of_ble_eq_true rfl) (by omega) (Nat.le_refl _) (Nat.le_refl _) d_X8_readName_94 ((sp_X8_emitOperand (d := d - 1) (by omega) hQ).mono (fun r w2 hr => ?_))
        obtain ⟨s16, rfl, rfl, hQ⟩ := hr
        refine x_iconst (v := (1 : Int32)) d_X8_readName_97 (by decide) ?_
        exact x_iret (retB d_X8_readName_98 rfl rfl) ⟨_, _, rfl, rfl, hQ⟩
      · have hQ := hQ.2 c_78_14
        refine x_iload_n 0 d_X8_readName_81 rfl rfl ?_
        refine x_iload_n 2 d_X8_readName_82 rfl rfl ?_
        refine x_invSN (rest := [.ref a]) (d' := d - 1) (mc' := 0) (ms' := 0) [.int x10, .int x2] "LagSolver" k_X9_slopeOperand lk_X8_86 rfl rfl (Nat.le_of_ble_eq_true rfl) (by omega) (Nat.le_refl _) (Nat.le_refl _) d_X8_readName_83 ((sp_X9_slopeOperand (d := d - 1) (by omega) hQ).mono (fun r w2 hr => ?_))
        obtain ⟨r17, rfl, rfl, hQ⟩ := hr
        refine x_goto (tgt := 94) d_X8_readName_86 (by decide) ?_
        refine x_invV (rest := []) (d' := d - 1) (mc' := 0) (ms' := 0) [.int r17] k_X8_emitOperand lk_X8_73 gT_0 rfl rfl rfl (Nat.le_of_ble_eq_true rfl) (by omega) (Nat.le_refl _) (Nat.le_refl _) d_X8_readName_94 ((sp_X8_emitOperand (d := d - 1) (by omega) hQ).mono (fun r w2 hr => ?_))
        obtain ⟨s18, rfl, rfl, hQ⟩ := hr
        refine x_iconst (v := (1 : Int32)) d_X8_readName_97 (by decide) ?_
        exact x_iret (retB d_X8_readName_98 rfl rfl) ⟨_, _, rfl, rfl, hQ⟩
    · have hQ := hQ.2 c_61_12
      refine x_iconst (v := (0 : Int32)) d_X8_readName_64 (by decide) ?_
      exact x_iret (retB d_X8_readName_65 rfl rfl) ⟨_, _, rfl, rfl, hQ⟩
  · have hQ := hQ.2 c_31_8
    refine x_aload_n 2 d_X8_readName_34 rfl rfl ?_
    refine x_iload_n 1 d_X8_readName_35 rfl rfl ?_
    refine x_invV (rest := []) (d' := d - 1) (mc' := 0) (ms' := 0) [.int x2] k_X8_emitOperand lk_X8_73 gT_0 rfl rfl rfl (Nat.le_of_ble_eq_true rfl) (by omega) (Nat.le_refl _) (Nat.le_refl _) d_X8_readName_36 ((sp_X8_emitOperand (d := d - 1) (by omega) hQ).mono (fun r w2 hr => ?_))
    obtain ⟨s19, rfl, rfl, hQ⟩ := hr
    refine x_iload_n 0 d_X8_readName_39 rfl rfl ?_
    refine x_if_ne (tgt := 47) d_X8_readName_40 (by decide) (fun c_40_20 => ?_) (fun c_40_20 => ?_)
    · have hQ := hQ.1 c_40_20
      refine x_iconst (v := (0 : Int32)) d_X8_readName_47 (by decide) ?_
      exact x_iret (retB d_X8_readName_48 rfl rfl) ⟨_, _, rfl, rfl, hQ⟩
    · have hQ := hQ.2 c_40_20
      refine x_iconst (v := (1 : Int32)) d_X8_readName_43 (by decide) ?_
      refine x_goto (tgt := 48) d_X8_readName_44 (by decide) ?_
      exact x_iret (retB d_X8_readName_48 rfl rfl) ⟨_, _, rfl, rfl, hQ⟩
def wp_X8_readOpen (s : RT) (a0 : Int32) (K : Int32 → RT → Prop) : Prop := (((6 : Int32) ≤ a0 → K (0 : Int32) s) ∧ (¬ (6 : Int32) ≤ a0 → wp_X8_accept s (40 : Int32) (fun (r2 : Int32) (s3 : RT) => ((r2 = (0 : Int32) → K (0 : Int32) s3) ∧ (¬ r2 = (0 : Int32) → K (1 : Int32) s3)))))
set_option maxHeartbeats 4000000 in
theorem sp_X8_readOpen {G : GX} {l : Launch} {d : Nat} {w : HW} {a : Nat} {s : RT} {a0 : Int32} {K : Int32 → RT → Prop} (hd : 3 ≤ d) (hQ : wp_X8_readOpen s a0 K) : Sp G l m_X8_readOpen d 0 0 [.ref a, .int a0] (put w a 3 (shT a s)) (fun r w2 => ∃ (r1 : Int32), ∃ (z0 : RT), r = some (.int r1) ∧ w2 = put w a 3 (shT a z0) ∧ K r1 z0) := by
  refine Sp.ofX k_X8_readOpen.1.1 (Nat.le_of_ble_eq_true rfl) ?_
  refine X.lv (lv2 := [(0, .ref a), (1, .int a0)]) rfl ?_
  refine x_iload_n 1 d_X8_readOpen_0 rfl rfl ?_
  refine x_bipush (v := (6 : Int32)) d_X8_readOpen_1 (by decide) ?_
  refine x_icmp_ge (tgt := 19) d_X8_readOpen_3 (by decide) (fun c_3_1 => ?_) (fun c_3_1 => ?_)
  · have hQ := hQ.1 c_3_1
    refine x_iconst (v := (0 : Int32)) d_X8_readOpen_19 (by decide) ?_
    exact x_iret (retB d_X8_readOpen_20 rfl rfl) ⟨_, _, rfl, rfl, hQ⟩
  · have hQ := hQ.2 c_3_1
    refine x_aload_n 0 d_X8_readOpen_6 rfl rfl ?_
    refine x_bipush (v := (40 : Int32)) d_X8_readOpen_7 (by decide) ?_
    refine x_invV (rest := []) (d' := d - 1) (mc' := 0) (ms' := 0) [.int (40 : Int32)] k_X8_accept lk_X8_53 gT_0 rfl rfl rfl (Nat.le_of_ble_eq_true rfl) (by omega) (Nat.le_refl _) (Nat.le_refl _) d_X8_readOpen_9 ((sp_X8_accept (d := d - 1) (by omega) hQ).mono (fun r w2 hr => ?_))
    obtain ⟨r2, s3, rfl, rfl, hQ⟩ := hr
    refine x_if_eq (tgt := 19) d_X8_readOpen_12 (by decide) (fun c_12_4 => ?_) (fun c_12_4 => ?_)
    · have hQ := hQ.1 c_12_4
      refine x_iconst (v := (0 : Int32)) d_X8_readOpen_19 (by decide) ?_
      exact x_iret (retB d_X8_readOpen_20 rfl rfl) ⟨_, _, rfl, rfl, hQ⟩
    · have hQ := hQ.2 c_12_4
      refine x_iconst (v := (1 : Int32)) d_X8_readOpen_15 (by decide) ?_
      refine x_goto (tgt := 20) d_X8_readOpen_16 (by decide) ?_
      exact x_iret (retB d_X8_readOpen_20 rfl rfl) ⟨_, _, rfl, rfl, hQ⟩

def jp_X8_readLeastOrMost_34 (RS : RT → Int32 → (Int32 → RT → Prop) → Prop) (a0 : Int32) (K : Int32 → RT → Prop) (x_2 : Int32) (t_0 : Int32) (y_0 : RT) : Prop := wp_X8_accept y_0 t_0 (fun (r5 : Int32) (s6 : RT) => ((r5 = (0 : Int32) → K (0 : Int32) s6) ∧ (¬ r5 = (0 : Int32) → wp_X8_readOpen s6 a0 (fun (r8 : Int32) (s9 : RT) => ((r8 = (0 : Int32) → K (0 : Int32) s9) ∧ (¬ r8 = (0 : Int32) → RS s9 (a0 + (1 : Int32)) (fun (r11 : Int32) (s12 : RT) => ((r11 = (0 : Int32) → K (0 : Int32) s12) ∧ (¬ r11 = (0 : Int32) → wp_X8_accept s12 (44 : Int32) (fun (r14 : Int32) (s15 : RT) => ((r14 = (0 : Int32) → K (0 : Int32) s15) ∧ (¬ r14 = (0 : Int32) → RS s15 (a0 + (1 : Int32)) (fun (r17 : Int32) (s18 : RT) => ((r17 = (0 : Int32) → K (0 : Int32) s18) ∧ (¬ r17 = (0 : Int32) → wp_X8_accept s18 (41 : Int32) (fun (r20 : Int32) (s21 : RT) => ((¬ r20 = (0 : Int32) → ((x_2 = (0 : Int32) → wp_X8_emit s21 (8 : Int32) (0 : Int32) (fun (s24 : RT) => K (1 : Int32) s24)) ∧ (¬ x_2 = (0 : Int32) → wp_X8_emit s21 (7 : Int32) (0 : Int32) (fun (s25 : RT) => K (1 : Int32) s25)))) ∧ (r20 = (0 : Int32) → K (0 : Int32) s21))))))))))))))))))
set_option maxHeartbeats 4000000 in
theorem jt_X8_readLeastOrMost_34 {G : GX} {l : Launch} {d : Nat} {w : HW} {a : Nat} {e : Nat} {RS : RT → Int32 → (Int32 → RT → Prop) → Prop} {a0 : Int32} {K : Int32 → RT → Prop} (hd : e + 4 ≤ d) (hRS : ∀ (w : HW) (a : Nat) (s : RT) (o : Int32) (K : Int32 → RT → Prop), RS s o K → Sp G l m_X8_readSum e 0 0 [.ref a, .int o] (put w a 3 (shT a s)) (fun r w2 => ∃ (r1 : Int32), ∃ (z0 : RT), r = some (.int r1) ∧ w2 = put w a 3 (shT a z0) ∧ K r1 z0)) (x_2 : Int32) (t_0 : Int32) (y_0 : RT) (hQ : jp_X8_readLeastOrMost_34 RS a0 K x_2 t_0 y_0) : X G l m_X8_readLeastOrMost d 0 0 0 0 34 [(0, .ref a), (1, .int a0), (2, .int x_2)] [.int t_0, .ref a] (put w a 3 (shT a y_0)) (fun r w2 => ∃ (r1 : Int32), ∃ (z0 : RT), r = some (.int r1) ∧ w2 = put w a 3 (shT a z0) ∧ K r1 z0) := by
  refine x_invV (rest := []) (d' := d - 1) (mc' := 0) (ms' := 0) [.int t_0] k_X8_accept lk_X8_53 gT_0 rfl rfl rfl (Nat.le_of_ble_eq_true rfl) (by omega) (Nat.le_refl _) (Nat.le_refl _) d_X8_readLeastOrMost_34 ((sp_X8_accept (d := d - 1) (by omega) hQ).mono (fun r w2 hr => ?_))
  obtain ⟨r5, s6, rfl, rfl, hQ⟩ := hr
  refine x_if_eq (tgt := 86) d_X8_readLeastOrMost_37 (by decide) (fun c_37_7 => ?_) (fun c_37_7 => ?_)
  · have hQ := hQ.1 c_37_7
    refine x_iconst (v := (0 : Int32)) d_X8_readLeastOrMost_86 (by decide) ?_
    exact x_iret (retB d_X8_readLeastOrMost_87 rfl rfl) ⟨_, _, rfl, rfl, hQ⟩
  · have hQ := hQ.2 c_37_7
    refine x_aload_n 0 d_X8_readLeastOrMost_40 rfl rfl ?_
    refine x_iload_n 1 d_X8_readLeastOrMost_41 rfl rfl ?_
    refine x_invV (rest := []) (d' := d - 1) (mc' := 0) (ms' := 0) [.int a0] k_X8_readOpen lk_X8_80 gT_0 rfl rfl rfl (Nat.le_of_ble_eq_true rfl) (by omega) (Nat.le_refl _) (Nat.le_refl _) d_X8_readLeastOrMost_42 ((sp_X8_readOpen (d := d - 1) (by omega) hQ).mono (fun r w2 hr => ?_))
    obtain ⟨r8, s9, rfl, rfl, hQ⟩ := hr
    refine x_if_eq (tgt := 86) d_X8_readLeastOrMost_45 (by decide) (fun c_45_10 => ?_) (fun c_45_10 => ?_)
    · have hQ := hQ.1 c_45_10
      refine x_iconst (v := (0 : Int32)) d_X8_readLeastOrMost_86 (by decide) ?_
      exact x_iret (retB d_X8_readLeastOrMost_87 rfl rfl) ⟨_, _, rfl, rfl, hQ⟩
    · have hQ := hQ.2 c_45_10
      refine x_aload_n 0 d_X8_readLeastOrMost_48 rfl rfl ?_
      refine x_iload_n 1 d_X8_readLeastOrMost_49 rfl rfl ?_
      refine x_iconst (v := (1 : Int32)) d_X8_readLeastOrMost_50 (by decide) ?_
      refine x_iadd d_X8_readLeastOrMost_51 ?_
      refine x_invV (rest := []) (d' := e) (mc' := 0) (ms' := 0) [.int (a0 + (1 : Int32))] k_X8_readSum lk_X8_35 gT_0 rfl rfl rfl (Nat.le_of_ble_eq_true rfl) (by omega) (Nat.le_refl _) (Nat.le_refl _) d_X8_readLeastOrMost_52 ((hRS _ _ _ _ _ hQ).mono (fun r w2 hr => ?_))
      obtain ⟨r11, s12, rfl, rfl, hQ⟩ := hr
      refine x_if_eq (tgt := 86) d_X8_readLeastOrMost_55 (by decide) (fun c_55_13 => ?_) (fun c_55_13 => ?_)
      · have hQ := hQ.1 c_55_13
        refine x_iconst (v := (0 : Int32)) d_X8_readLeastOrMost_86 (by decide) ?_
        exact x_iret (retB d_X8_readLeastOrMost_87 rfl rfl) ⟨_, _, rfl, rfl, hQ⟩
      · have hQ := hQ.2 c_55_13
        refine x_aload_n 0 d_X8_readLeastOrMost_58 rfl rfl ?_
        refine x_bipush (v := (44 : Int32)) d_X8_readLeastOrMost_59 (by decide) ?_
        refine x_invV (rest := []) (d' := d - 1) (mc' := 0) (ms' := 0) [.int (44 : Int32)] k_X8_accept lk_X8_53 gT_0 rfl rfl rfl (Nat.le_of_ble_eq_true rfl) (by omega) (Nat.le_refl _) (Nat.le_refl _) d_X8_readLeastOrMost_61 ((sp_X8_accept (d := d - 1) (by omega) hQ).mono (fun r w2 hr => ?_))
        obtain ⟨r14, s15, rfl, rfl, hQ⟩ := hr
        refine x_if_eq (tgt := 86) d_X8_readLeastOrMost_64 (by decide) (fun c_64_16 => ?_) (fun c_64_16 => ?_)
        · have hQ := hQ.1 c_64_16
          refine x_iconst (v := (0 : Int32)) d_X8_readLeastOrMost_86 (by decide) ?_
          exact x_iret (retB d_X8_readLeastOrMost_87 rfl rfl) ⟨_, _, rfl, rfl, hQ⟩
        · have hQ := hQ.2 c_64_16
          refine x_aload_n 0 d_X8_readLeastOrMost_67 rfl rfl ?_
          refine x_iload_n 1 d_X8_readLeastOrMost_68 rfl rfl ?_
          refine x_iconst (v := (1 : Int32)) d_X8_readLeastOrMost_69 (by decide) ?_
          refine x_iadd d_X8_readLeastOrMost_70 ?_
          refine x_invV (rest := []) (d' := e) (mc' := 0) (ms' := 0) [.int (a0 + (1 : Int32))] k_X8_readSum lk_X8_35 gT_0 rfl rfl rfl (Nat.le_of_ble_eq_true rfl) (by omega) (Nat.le_refl _) (Nat.le_refl _) d_X8_readLeastOrMost_71 ((hRS _ _ _ _ _ hQ).mono (fun r w2 hr => ?_))
          obtain ⟨r17, s18, rfl, rfl, hQ⟩ := hr
          refine x_if_eq (tgt := 86) d_X8_readLeastOrMost_74 (by decide) (fun c_74_19 => ?_) (fun c_74_19 => ?_)
          · have hQ := hQ.1 c_74_19
            refine x_iconst (v := (0 : Int32)) d_X8_readLeastOrMost_86 (by decide) ?_
            exact x_iret (retB d_X8_readLeastOrMost_87 rfl rfl) ⟨_, _, rfl, rfl, hQ⟩
          · have hQ := hQ.2 c_74_19
            refine x_aload_n 0 d_X8_readLeastOrMost_77 rfl rfl ?_
            refine x_bipush (v := (41 : Int32)) d_X8_readLeastOrMost_78 (by decide) ?_
            refine x_invV (rest := []) (d' := d - 1) (mc' := 0) (ms' := 0) [.int (41 : Int32)] k_X8_accept lk_X8_53 gT_0 rfl rfl rfl (Nat.le_of_ble_eq_true rfl) (by omega) (Nat.le_refl _) (Nat.le_refl _) d_X8_readLeastOrMost_80 ((sp_X8_accept (d := d - 1) (by omega) hQ).mono (fun r w2 hr => ?_))
            obtain ⟨r20, s21, rfl, rfl, hQ⟩ := hr
            refine x_if_ne (tgt := 88) d_X8_readLeastOrMost_83 (by decide) (fun c_83_22 => ?_) (fun c_83_22 => ?_)
            · have hQ := hQ.1 c_83_22
              refine x_aload_n 0 d_X8_readLeastOrMost_88 rfl rfl ?_
              refine x_iload_n 2 d_X8_readLeastOrMost_89 rfl rfl ?_
              refine x_if_eq (tgt := 98) d_X8_readLeastOrMost_90 (by decide) (fun c_90_23 => ?_) (fun c_90_23 => ?_)
              · have hQ := hQ.1 c_90_23
                refine x_bipush (v := (8 : Int32)) d_X8_readLeastOrMost_98 (by decide) ?_
                refine x_iconst (v := (0 : Int32)) d_X8_readLeastOrMost_100 (by decide) ?_
                refine x_invV (rest := []) (d' := d - 1) (mc' := 0) (ms' := 0) [.int (8 : Int32), .int (0 : Int32)] k_X8_emit lk_X8_46 gT_0 rfl rfl rfl (Nat.le_of_ble_eq_true rfl) (by omega) (Nat.le_refl _) (Nat.le_refl _) d_X8_readLeastOrMost_101 ((sp_X8_emit (d := d - 1) (by omega) hQ).mono (fun r w2 hr => ?_))
                obtain ⟨s24, rfl, rfl, hQ⟩ := hr
                refine x_iconst (v := (1 : Int32)) d_X8_readLeastOrMost_104 (by decide) ?_
                exact x_iret (retB d_X8_readLeastOrMost_105 rfl rfl) ⟨_, _, rfl, rfl, hQ⟩
              · have hQ := hQ.2 c_90_23
                refine x_bipush (v := (7 : Int32)) d_X8_readLeastOrMost_93 (by decide) ?_
                refine x_goto (tgt := 100) d_X8_readLeastOrMost_95 (by decide) ?_
                refine x_iconst (v := (0 : Int32)) d_X8_readLeastOrMost_100 (by decide) ?_
                refine x_invV (rest := []) (d' := d - 1) (mc' := 0) (ms' := 0) [.int (7 : Int32), .int (0 : Int32)] k_X8_emit lk_X8_46 gT_0 rfl rfl rfl (Nat.le_of_ble_eq_true rfl) (by omega) (Nat.le_refl _) (Nat.le_refl _) d_X8_readLeastOrMost_101 ((sp_X8_emit (d := d - 1) (by omega) hQ).mono (fun r w2 hr => ?_))
                obtain ⟨s25, rfl, rfl, hQ⟩ := hr
                refine x_iconst (v := (1 : Int32)) d_X8_readLeastOrMost_104 (by decide) ?_
                exact x_iret (retB d_X8_readLeastOrMost_105 rfl rfl) ⟨_, _, rfl, rfl, hQ⟩
            · have hQ := hQ.2 c_83_22
              refine x_iconst (v := (0 : Int32)) d_X8_readLeastOrMost_86 (by decide) ?_
              exact x_iret (retB d_X8_readLeastOrMost_87 rfl rfl) ⟨_, _, rfl, rfl, hQ⟩
def jp_X8_readLeastOrMost_22 (RS : RT → Int32 → (Int32 → RT → Prop) → Prop) (a0 : Int32) (K : Int32 → RT → Prop) (x_2 : Int32) (y_0 : RT) : Prop := ((x_2 = (0 : Int32) → jp_X8_readLeastOrMost_34 RS a0 K x_2 (120 : Int32) y_0) ∧ (¬ x_2 = (0 : Int32) → jp_X8_readLeastOrMost_34 RS a0 K x_2 (110 : Int32) y_0))
set_option maxHeartbeats 4000000 in
theorem jt_X8_readLeastOrMost_22 {G : GX} {l : Launch} {d : Nat} {w : HW} {a : Nat} {e : Nat} {RS : RT → Int32 → (Int32 → RT → Prop) → Prop} {a0 : Int32} {K : Int32 → RT → Prop} (hd : e + 4 ≤ d) (hRS : ∀ (w : HW) (a : Nat) (s : RT) (o : Int32) (K : Int32 → RT → Prop), RS s o K → Sp G l m_X8_readSum e 0 0 [.ref a, .int o] (put w a 3 (shT a s)) (fun r w2 => ∃ (r1 : Int32), ∃ (z0 : RT), r = some (.int r1) ∧ w2 = put w a 3 (shT a z0) ∧ K r1 z0)) (x_2 : Int32) (y_0 : RT) (hQ : jp_X8_readLeastOrMost_22 RS a0 K x_2 y_0) : X G l m_X8_readLeastOrMost d 0 0 0 0 22 [(0, .ref a), (1, .int a0), (2, .int x_2)] [] (put w a 3 (shT a y_0)) (fun r w2 => ∃ (r1 : Int32), ∃ (z0 : RT), r = some (.int r1) ∧ w2 = put w a 3 (shT a z0) ∧ K r1 z0) := by
  refine x_aload_n 0 d_X8_readLeastOrMost_22 rfl rfl ?_
  refine x_iload_n 2 d_X8_readLeastOrMost_23 rfl rfl ?_
  refine x_if_eq (tgt := 32) d_X8_readLeastOrMost_24 (by decide) (fun c_24_4 => ?_) (fun c_24_4 => ?_)
  · have hQ := hQ.1 c_24_4
    refine x_bipush (v := (120 : Int32)) d_X8_readLeastOrMost_32 (by decide) ?_
    refine x_sub [0, 1, 2] (lv2 := [(0, .ref a), (1, .int a0), (2, .int x_2)]) rfl ?_
    exact jt_X8_readLeastOrMost_34 hd hRS x_2 (120 : Int32) y_0 hQ
  · have hQ := hQ.2 c_24_4
    refine x_bipush (v := (110 : Int32)) d_X8_readLeastOrMost_27 (by decide) ?_
    refine x_goto (tgt := 34) d_X8_readLeastOrMost_29 (by decide) ?_
    refine x_sub [0, 1, 2] (lv2 := [(0, .ref a), (1, .int a0), (2, .int x_2)]) rfl ?_
    exact jt_X8_readLeastOrMost_34 hd hRS x_2 (110 : Int32) y_0 hQ
def wp_X8_readLeastOrMost (RS : RT → Int32 → (Int32 → RT → Prop) → Prop) (s : RT) (a0 : Int32) (K : Int32 → RT → Prop) : Prop := wp_X8_accept s (105 : Int32) (fun (r1 : Int32) (s2 : RT) => ((¬ r1 = (0 : Int32) → jp_X8_readLeastOrMost_22 RS a0 K r1 s2) ∧ (r1 = (0 : Int32) → wp_X8_accept s2 (97 : Int32) (fun (r26 : Int32) (s27 : RT) => ((¬ r26 = (0 : Int32) → jp_X8_readLeastOrMost_22 RS a0 K r1 s27) ∧ (r26 = (0 : Int32) → K (0 : Int32) s27))))))
set_option maxHeartbeats 4000000 in
theorem sp_X8_readLeastOrMost {G : GX} {l : Launch} {d : Nat} {w : HW} {a : Nat} {e : Nat} {RS : RT → Int32 → (Int32 → RT → Prop) → Prop} {s : RT} {a0 : Int32} {K : Int32 → RT → Prop} (hd : e + 4 ≤ d) (hRS : ∀ (w : HW) (a : Nat) (s : RT) (o : Int32) (K : Int32 → RT → Prop), RS s o K → Sp G l m_X8_readSum e 0 0 [.ref a, .int o] (put w a 3 (shT a s)) (fun r w2 => ∃ (r1 : Int32), ∃ (z0 : RT), r = some (.int r1) ∧ w2 = put w a 3 (shT a z0) ∧ K r1 z0)) (hQ : wp_X8_readLeastOrMost RS s a0 K) : Sp G l m_X8_readLeastOrMost d 0 0 [.ref a, .int a0] (put w a 3 (shT a s)) (fun r w2 => ∃ (r1 : Int32), ∃ (z0 : RT), r = some (.int r1) ∧ w2 = put w a 3 (shT a z0) ∧ K r1 z0) := by
  refine Sp.ofX k_X8_readLeastOrMost.1.1 (Nat.le_of_ble_eq_true rfl) ?_
  refine X.lv (lv2 := [(0, .ref a), (1, .int a0)]) rfl ?_
  refine x_aload_n 0 d_X8_readLeastOrMost_0 rfl rfl ?_
  refine x_bipush (v := (105 : Int32)) d_X8_readLeastOrMost_1 (by decide) ?_
  refine x_invV (rest := []) (d' := d - 1) (mc' := 0) (ms' := 0) [.int (105 : Int32)] k_X8_accept lk_X8_53 gT_0 rfl rfl rfl (Nat.le_of_ble_eq_true rfl) (by omega) (Nat.le_refl _) (Nat.le_refl _) d_X8_readLeastOrMost_3 ((sp_X8_accept (d := d - 1) (by omega) hQ).mono (fun r w2 hr => ?_))
  obtain ⟨r1, s2, rfl, rfl, hQ⟩ := hr
  refine x_istore_n (lv2 := [(2, .int r1), (0, .ref a), (1, .int a0)]) d_X8_readLeastOrMost_6 rfl (by decide) rfl ?_
  refine x_iload_n 0 d_X8_readLeastOrMost_7 rfl rfl ?_
  refine x_if_ne (tgt := 22) d_X8_readLeastOrMost_8 (by decide) (fun c_8_3 => ?_) (fun c_8_3 => ?_)
  · have hQ := hQ.1 c_8_3
    refine x_sub [1, 2, 0] (lv2 := [(0, .ref a), (1, .int a0), (2, .int r1)]) rfl ?_
    exact jt_X8_readLeastOrMost_22 hd hRS r1 s2 hQ
  · have hQ := hQ.2 c_8_3
    refine x_aload_n 1 d_X8_readLeastOrMost_11 rfl rfl ?_
    refine x_bipush (v := (97 : Int32)) d_X8_readLeastOrMost_12 (by decide) ?_
    refine x_invV (rest := []) (d' := d - 1) (mc' := 0) (ms' := 0) [.int (97 : Int32)] k_X8_accept lk_X8_53 gT_0 rfl rfl rfl (Nat.le_of_ble_eq_true rfl) (by omega) (Nat.le_refl _) (Nat.le_refl _) d_X8_readLeastOrMost_14 ((sp_X8_accept (d := d - 1) (by omega) hQ).mono (fun r w2 hr => ?_))
    obtain ⟨r26, s27, rfl, rfl, hQ⟩ := hr
    refine x_if_ne (tgt := 22) d_X8_readLeastOrMost_17 (by decide) (fun c_17_28 => ?_) (fun c_17_28 => ?_)
    · have hQ := hQ.1 c_17_28
      refine x_sub [1, 2, 0] (lv2 := [(0, .ref a), (1, .int a0), (2, .int r1)]) rfl ?_
      exact jt_X8_readLeastOrMost_22 hd hRS r1 s27 hQ
    · have hQ := hQ.2 c_17_28
      refine x_iconst (v := (0 : Int32)) d_X8_readLeastOrMost_20 (by decide) ?_
      exact x_iret (retB d_X8_readLeastOrMost_21 rfl rfl) ⟨_, _, rfl, rfl, hQ⟩
def wp_X8_readBareUnit (RS : RT → Int32 → (Int32 → RT → Prop) → Prop) (s : RT) (a0 : Int32) (K : Int32 → RT → Prop) : Prop := wp_X8_sign s (fun (r1 : Int32) => wp_X8_isDigit r1 (fun (r2 : Int32) => ((r2 = (0 : Int32) → wp_X9_isWithin r1 (120 : Int32) (122 : Int32) (fun (r4 : Int32) => ((r4 = (0 : Int32) → wp_X8_accept s (116 : Int32) (fun (r6 : Int32) (s7 : RT) => ((r6 = (0 : Int32) → wp_X8_accept s7 (109 : Int32) (fun (r9 : Int32) (s10 : RT) => ((r9 = (0 : Int32) → wp_X8_readOpen s10 a0 (fun (r12 : Int32) (s13 : RT) => ((r12 = (0 : Int32) → K (0 : Int32) s13) ∧ (¬ r12 = (0 : Int32) → RS s13 (a0 + (1 : Int32)) (fun (r15 : Int32) (s16 : RT) => ((r15 = (0 : Int32) → K (0 : Int32) s16) ∧ (¬ r15 = (0 : Int32) → wp_X8_accept s16 (41 : Int32) (fun (r18 : Int32) (s19 : RT) => ((r18 = (0 : Int32) → K (0 : Int32) s19) ∧ (¬ r18 = (0 : Int32) → K (1 : Int32) s19)))))))))) ∧ (¬ r9 = (0 : Int32) → wp_X8_readLeastOrMost RS s10 a0 (fun (r21 : Int32) (s22 : RT) => (narrow .boolean (.int r21) = .int r21) ∧ K r21 s22))))) ∧ (¬ r6 = (0 : Int32) → wp_X8_emitOperand s7 (3 : Int32) (fun (s23 : RT) => K (1 : Int32) s23))))) ∧ (¬ r4 = (0 : Int32) → wp_X8_readName s (fun (r24 : Int32) (s25 : RT) => (narrow .boolean (.int r24) = .int r24) ∧ K r24 s25))))) ∧ (¬ r2 = (0 : Int32) → wp_X8_readNumber s (fun (r26 : Int32) (s27 : RT) => (narrow .boolean (.int r26) = .int r26) ∧ K r26 s27)))))
set_option maxHeartbeats 4000000 in
theorem sp_X8_readBareUnit {G : GX} {l : Launch} {d : Nat} {w : HW} {a : Nat} {e : Nat} {RS : RT → Int32 → (Int32 → RT → Prop) → Prop} {s : RT} {a0 : Int32} {K : Int32 → RT → Prop} (hd : e + 5 ≤ d) (hRS : ∀ (w : HW) (a : Nat) (s : RT) (o : Int32) (K : Int32 → RT → Prop), RS s o K → Sp G l m_X8_readSum e 0 0 [.ref a, .int o] (put w a 3 (shT a s)) (fun r w2 => ∃ (r1 : Int32), ∃ (z0 : RT), r = some (.int r1) ∧ w2 = put w a 3 (shT a z0) ∧ K r1 z0)) (hQ : wp_X8_readBareUnit RS s a0 K) : Sp G l m_X8_readBareUnit d 0 0 [.ref a, .int a0] (put w a 3 (shT a s)) (fun r w2 => ∃ (r1 : Int32), ∃ (z0 : RT), r = some (.int r1) ∧ w2 = put w a 3 (shT a z0) ∧ K r1 z0) := by
  refine Sp.ofX k_X8_readBareUnit.1.1 (Nat.le_of_ble_eq_true rfl) ?_
  refine X.lv (lv2 := [(0, .ref a), (1, .int a0)]) rfl ?_
  refine x_aload_n 0 d_X8_readBareUnit_0 rfl rfl ?_
  refine x_invV (rest := []) (d' := d - 1) (mc' := 0) (ms' := 0) [] k_X8_sign lk_X8_42 gT_0 rfl rfl rfl (Nat.le_of_ble_eq_true rfl) (by omega) (Nat.le_refl _) (Nat.le_refl _) d_X8_readBareUnit_1 ((sp_X8_sign (d := d - 1) (by omega) hQ).mono (fun r w2 hr => ?_))
  obtain ⟨r1, rfl, rfl, hQ⟩ := hr
  refine x_istore_n (lv2 := [(2, .int r1), (0, .ref a), (1, .int a0)]) d_X8_readBareUnit_4 rfl (by decide) rfl ?_
  refine x_iload_n 0 d_X8_readBareUnit_5 rfl rfl ?_
  refine x_invS (rest := []) (d' := d - 1) (mc' := 0) (ms' := 0) [.int r1] k_X8_isDigit lk_X8_59 rfl rfl (Nat.le_of_ble_eq_true rfl) (by omega) (Nat.le_refl _) (Nat.le_refl _) d_X8_readBareUnit_6 ((sp_X8_isDigit (d := d - 1) (by omega) hQ).mono (fun r w2 hr => ?_))
  obtain ⟨r2, rfl, rfl, hQ⟩ := hr
  refine x_if_eq (tgt := 17) d_X8_readBareUnit_9 (by decide) (fun c_9_3 => ?_) (fun c_9_3 => ?_)
  · have hQ := hQ.1 c_9_3
    refine x_iload_n 0 d_X8_readBareUnit_17 rfl rfl ?_
    refine x_bipush (v := (120 : Int32)) d_X8_readBareUnit_18 (by decide) ?_
    refine x_bipush (v := (122 : Int32)) d_X8_readBareUnit_20 (by decide) ?_
    refine x_invSN (rest := []) (d' := d - 1) (mc' := 0) (ms' := 0) [.int r1, .int (120 : Int32), .int (122 : Int32)] "LagSolver" k_X9_isWithin lk_X8_66 rfl rfl (Nat.le_of_ble_eq_true rfl) (by omega) (Nat.le_refl _) (Nat.le_refl _) d_X8_readBareUnit_22 ((sp_X9_isWithin (d := d - 1) (by omega) hQ).mono (fun r w2 hr => ?_))
    obtain ⟨r4, rfl, rfl, hQ⟩ := hr
    refine x_if_eq (tgt := 33) d_X8_readBareUnit_25 (by decide) (fun c_25_5 => ?_) (fun c_25_5 => ?_)
    · have hQ := hQ.1 c_25_5
      refine x_aload_n 1 d_X8_readBareUnit_33 rfl rfl ?_
      refine x_bipush (v := (116 : Int32)) d_X8_readBareUnit_34 (by decide) ?_
      refine x_invV (rest := []) (d' := d - 1) (mc' := 0) (ms' := 0) [.int (116 : Int32)] k_X8_accept lk_X8_53 gT_0 rfl rfl rfl (Nat.le_of_ble_eq_true rfl) (by omega) (Nat.le_refl _) (Nat.le_refl _) d_X8_readBareUnit_36 ((sp_X8_accept (d := d - 1) (by omega) hQ).mono (fun r w2 hr => ?_))
      obtain ⟨r6, s7, rfl, rfl, hQ⟩ := hr
      refine x_if_eq (tgt := 49) d_X8_readBareUnit_39 (by decide) (fun c_39_8 => ?_) (fun c_39_8 => ?_)
      · have hQ := hQ.1 c_39_8
        refine x_aload_n 1 d_X8_readBareUnit_49 rfl rfl ?_
        refine x_bipush (v := (109 : Int32)) d_X8_readBareUnit_50 (by decide) ?_
        refine x_invV (rest := []) (d' := d - 1) (mc' := 0) (ms' := 0) [.int (109 : Int32)] k_X8_accept lk_X8_53 gT_0 rfl rfl rfl (Nat.le_of_ble_eq_true rfl) (by omega) (Nat.le_refl _) (Nat.le_refl _) d_X8_readBareUnit_52 ((sp_X8_accept (d := d - 1) (by omega) hQ).mono (fun r w2 hr => ?_))
        obtain ⟨r9, s10, rfl, rfl, hQ⟩ := hr
        refine x_if_eq (tgt := 64) d_X8_readBareUnit_55 (by decide) (fun c_55_11 => ?_) (fun c_55_11 => ?_)
        · have hQ := hQ.1 c_55_11
          refine x_aload_n 1 d_X8_readBareUnit_64 rfl rfl ?_
          refine x_iload_n 2 d_X8_readBareUnit_65 rfl rfl ?_
          refine x_invV (rest := []) (d' := d - 1) (mc' := 0) (ms' := 0) [.int a0] k_X8_readOpen lk_X8_80 gT_0 rfl rfl rfl (Nat.le_of_ble_eq_true rfl) (by omega) (Nat.le_refl _) (Nat.le_refl _) d_X8_readBareUnit_66 ((sp_X8_readOpen (d := d - 1) (by omega) hQ).mono (fun r w2 hr => ?_))
          obtain ⟨r12, s13, rfl, rfl, hQ⟩ := hr
          refine x_if_eq (tgt := 95) d_X8_readBareUnit_69 (by decide) (fun c_69_14 => ?_) (fun c_69_14 => ?_)
          · have hQ := hQ.1 c_69_14
            refine x_iconst (v := (0 : Int32)) d_X8_readBareUnit_95 (by decide) ?_
            exact x_iret (retB d_X8_readBareUnit_96 rfl rfl) ⟨_, _, rfl, rfl, hQ⟩
          · have hQ := hQ.2 c_69_14
            refine x_aload_n 1 d_X8_readBareUnit_72 rfl rfl ?_
            refine x_iload_n 2 d_X8_readBareUnit_73 rfl rfl ?_
            refine x_iconst (v := (1 : Int32)) d_X8_readBareUnit_74 (by decide) ?_
            refine x_iadd d_X8_readBareUnit_75 ?_
            refine x_invV (rest := []) (d' := e) (mc' := 0) (ms' := 0) [.int (a0 + (1 : Int32))] k_X8_readSum lk_X8_35 gT_0 rfl rfl rfl (Nat.le_of_ble_eq_true rfl) (by omega) (Nat.le_refl _) (Nat.le_refl _) d_X8_readBareUnit_76 ((hRS _ _ _ _ _ hQ).mono (fun r w2 hr => ?_))
            obtain ⟨r15, s16, rfl, rfl, hQ⟩ := hr
            refine x_if_eq (tgt := 95) d_X8_readBareUnit_79 (by decide) (fun c_79_17 => ?_) (fun c_79_17 => ?_)
            · have hQ := hQ.1 c_79_17
              refine x_iconst (v := (0 : Int32)) d_X8_readBareUnit_95 (by decide) ?_
              exact x_iret (retB d_X8_readBareUnit_96 rfl rfl) ⟨_, _, rfl, rfl, hQ⟩
            · have hQ := hQ.2 c_79_17
              refine x_aload_n 1 d_X8_readBareUnit_82 rfl rfl ?_
              refine x_bipush (v := (41 : Int32)) d_X8_readBareUnit_83 (by decide) ?_
              refine x_invV (rest := []) (d' := d - 1) (mc' := 0) (ms' := 0) [.int (41 : Int32)] k_X8_accept lk_X8_53 gT_0 rfl rfl rfl (Nat.le_of_ble_eq_true rfl) (by omega) (Nat.le_refl _) (Nat.le_refl _) d_X8_readBareUnit_85 ((sp_X8_accept (d := d - 1) (by omega) hQ).mono (fun r w2 hr => ?_))
              obtain ⟨r18, s19, rfl, rfl, hQ⟩ := hr
              refine x_if_eq (tgt := 95) d_X8_readBareUnit_88 (by decide) (fun c_88_20 => ?_) (fun c_88_20 => ?_)
              · have hQ := hQ.1 c_88_20
                refine x_iconst (v := (0 : Int32)) d_X8_readBareUnit_95 (by decide) ?_
                exact x_iret (retB d_X8_readBareUnit_96 rfl rfl) ⟨_, _, rfl, rfl, hQ⟩
              · have hQ := hQ.2 c_88_20
                refine x_iconst (v := (1 : Int32)) d_X8_readBareUnit_91 (by decide) ?_
                refine x_goto (tgt := 96) d_X8_readBareUnit_92 (by decide) ?_
                exact x_iret (retB d_X8_readBareUnit_96 rfl rfl) ⟨_, _, rfl, rfl, hQ⟩
        · have hQ := hQ.2 c_55_11
          refine x_aload_n 1 d_X8_readBareUnit_58 rfl rfl ?_
          refine x_iload_n 2 d_X8_readBareUnit_59 rfl rfl ?_
          refine x_invV (rest := []) (d' := d - 1) (mc' := 0) (ms' := 0) [.int a0] k_X8_readLeastOrMost lk_X8_77 gT_0 rfl rfl rfl (Nat.le_of_ble_eq_true rfl) (by omega) (Nat.le_refl _) (Nat.le_refl _) d_X8_readBareUnit_60 ((sp_X8_readLeastOrMost (d := d - 1) (by omega) hRS hQ).mono (fun r w2 hr => ?_))
          obtain ⟨r21, s22, rfl, rfl, hQ⟩ := hr
          exact x_iret (retB d_X8_readBareUnit_63 rfl hQ.1) ⟨_, _, rfl, rfl, hQ.2⟩
      · have hQ := hQ.2 c_39_8
        refine x_aload_n 1 d_X8_readBareUnit_42 rfl rfl ?_
        refine x_iconst (v := (3 : Int32)) d_X8_readBareUnit_43 (by decide) ?_
        refine x_invV (rest := []) (d' := d - 1) (mc' := 0) (ms' := 0) [.int (3 : Int32)] k_X8_emitOperand lk_X8_73 gT_0 rfl rfl rfl (Nat.le_of_ble_eq_true rfl) (by omega) (Nat.le_refl _) (Nat.le_refl _) d_X8_readBareUnit_44 ((sp_X8_emitOperand (d := d - 1) (by omega) hQ).mono (fun r w2 hr => ?_))
        obtain ⟨s23, rfl, rfl, hQ⟩ := hr
        refine x_iconst (v := (1 : Int32)) d_X8_readBareUnit_47 (by decide) ?_
        exact x_iret (retB d_X8_readBareUnit_48 rfl rfl) ⟨_, _, rfl, rfl, hQ⟩
    · have hQ := hQ.2 c_25_5
      refine x_aload_n 1 d_X8_readBareUnit_28 rfl rfl ?_
      refine x_invV (rest := []) (d' := d - 1) (mc' := 0) (ms' := 0) [] k_X8_readName lk_X8_70 gT_0 rfl rfl rfl (Nat.le_of_ble_eq_true rfl) (by omega) (Nat.le_refl _) (Nat.le_refl _) d_X8_readBareUnit_29 ((sp_X8_readName (d := d - 1) (by omega) hQ).mono (fun r w2 hr => ?_))
      obtain ⟨r24, s25, rfl, rfl, hQ⟩ := hr
      exact x_iret (retB d_X8_readBareUnit_32 rfl hQ.1) ⟨_, _, rfl, rfl, hQ.2⟩
  · have hQ := hQ.2 c_9_3
    refine x_aload_n 1 d_X8_readBareUnit_12 rfl rfl ?_
    refine x_invV (rest := []) (d' := d - 1) (mc' := 0) (ms' := 0) [] k_X8_readNumber lk_X8_62 gT_0 rfl rfl rfl (Nat.le_of_ble_eq_true rfl) (by omega) (Nat.le_refl _) (Nat.le_refl _) d_X8_readBareUnit_13 ((sp_X8_readNumber (d := d - 1) (by omega) hQ).mono (fun r w2 hr => ?_))
    obtain ⟨r26, s27, rfl, rfl, hQ⟩ := hr
    exact x_iret (retB d_X8_readBareUnit_16 rfl hQ.1) ⟨_, _, rfl, rfl, hQ.2⟩
def lp_X8_readUnit_35 (RS : RT → Int32 → (Int32 → RT → Prop) → Prop) (a0 : Int32) (K : Int32 → RT → Prop) : Nat → Int32 → Int32 → RT → Prop
  | 0, _, _, _ => False
  | n + 1, x_2, x_3, y_0 => ((x_2 ≤ x_3 → K (1 : Int32) y_0) ∧ (¬ x_2 ≤ x_3 → wp_X8_emit y_0 (6 : Int32) (0 : Int32) (fun (s6 : RT) => ∀ x7 : Int32, x7 = x_3 + (1 : Int32) → lp_X8_readUnit_35 RS a0 K n x_2 x7 s6)))
set_option maxHeartbeats 4000000 in
theorem jt_X8_readUnit_35 {G : GX} {l : Launch} {d : Nat} {w : HW} {a : Nat} {e : Nat} {RS : RT → Int32 → (Int32 → RT → Prop) → Prop} {a0 : Int32} {K : Int32 → RT → Prop} (hd : e + 6 ≤ d) (hRS : ∀ (w : HW) (a : Nat) (s : RT) (o : Int32) (K : Int32 → RT → Prop), RS s o K → Sp G l m_X8_readSum e 0 0 [.ref a, .int o] (put w a 3 (shT a s)) (fun r w2 => ∃ (r1 : Int32), ∃ (z0 : RT), r = some (.int r1) ∧ w2 = put w a 3 (shT a z0) ∧ K r1 z0)) : ∀ (n : Nat) (x_2 : Int32) (x_3 : Int32) (y_0 : RT), lp_X8_readUnit_35 RS a0 K n x_2 x_3 y_0 → X G l m_X8_readUnit d 0 0 0 0 35 [(0, .ref a), (2, .int x_2), (3, .int x_3)] [] (put w a 3 (shT a y_0)) (fun r w2 => ∃ (r1 : Int32), ∃ (z0 : RT), r = some (.int r1) ∧ w2 = put w a 3 (shT a z0) ∧ K r1 z0) := by
  intro n
  induction n with
  | zero =>
    intro x_2 x_3 y_0 hQ
    exact hQ.elim
  | succ n ih =>
    intro x_2 x_3 y_0 hQ
    refine x_iload_n 2 d_X8_readUnit_35 rfl rfl ?_
    refine x_iload_n 1 d_X8_readUnit_36 rfl rfl ?_
    refine x_icmp_ge (tgt := 53) d_X8_readUnit_37 (by decide) (fun c_37_5 => ?_) (fun c_37_5 => ?_)
    · have hQ := hQ.1 c_37_5
      refine x_iconst (v := (1 : Int32)) d_X8_readUnit_53 (by decide) ?_
      exact x_iret (retB d_X8_readUnit_54 rfl rfl) ⟨_, _, rfl, rfl, hQ⟩
    · have hQ := hQ.2 c_37_5
      refine x_aload_n 0 d_X8_readUnit_40 rfl rfl ?_
      refine x_bipush (v := (6 : Int32)) d_X8_readUnit_41 (by decide) ?_
      refine x_iconst (v := (0 : Int32)) d_X8_readUnit_43 (by decide) ?_
      refine x_invV (rest := []) (d' := d - 1) (mc' := 0) (ms' := 0) [.int (6 : Int32), .int (0 : Int32)] k_X8_emit lk_X8_46 gT_0 rfl rfl rfl (Nat.le_of_ble_eq_true rfl) (by omega) (Nat.le_refl _) (Nat.le_refl _) d_X8_readUnit_44 ((sp_X8_emit (d := d - 1) (by omega) hQ).mono (fun r w2 hr => ?_))
      obtain ⟨s6, rfl, rfl, hQ⟩ := hr
      obtain ⟨x7, e_x7⟩ : ∃ z : Int32, z = x_3 + (1 : Int32) := ⟨_, rfl⟩
      have hQ := hQ x7 e_x7
      refine x_iinc (v := x7) (lv2 := [(3, .int x7), (0, .ref a), (2, .int x_2)]) 2 d_X8_readUnit_47 rfl (by rw [e_x7]; rfl) (by decide) rfl ?_
      refine x_goto (tgt := 35) d_X8_readUnit_50 (by decide) ?_
      refine x_sub [1, 2, 0] (lv2 := [(0, .ref a), (2, .int x_2), (3, .int x7)]) rfl ?_
      exact ih x_2 x7 s6 hQ
def jp_X8_readUnit_23 (RS : RT → Int32 → (Int32 → RT → Prop) → Prop) (a0 : Int32) (K : Int32 → RT → Prop) (x_2 : Int32) (y_0 : RT) : Prop := wp_X8_readBareUnit RS y_0 a0 (fun (r2 : Int32) (s3 : RT) => ((¬ r2 = (0 : Int32) → ∃ m : Nat, lp_X8_readUnit_35 RS a0 K m x_2 (0 : Int32) s3) ∧ (r2 = (0 : Int32) → K (0 : Int32) s3)))
set_option maxHeartbeats 4000000 in
theorem jt_X8_readUnit_23 {G : GX} {l : Launch} {d : Nat} {w : HW} {a : Nat} {e : Nat} {RS : RT → Int32 → (Int32 → RT → Prop) → Prop} {a0 : Int32} {K : Int32 → RT → Prop} (hd : e + 6 ≤ d) (hRS : ∀ (w : HW) (a : Nat) (s : RT) (o : Int32) (K : Int32 → RT → Prop), RS s o K → Sp G l m_X8_readSum e 0 0 [.ref a, .int o] (put w a 3 (shT a s)) (fun r w2 => ∃ (r1 : Int32), ∃ (z0 : RT), r = some (.int r1) ∧ w2 = put w a 3 (shT a z0) ∧ K r1 z0)) (x_2 : Int32) (y_0 : RT) (hQ : jp_X8_readUnit_23 RS a0 K x_2 y_0) : X G l m_X8_readUnit d 0 0 0 0 23 [(0, .ref a), (1, .int a0), (2, .int x_2)] [] (put w a 3 (shT a y_0)) (fun r w2 => ∃ (r1 : Int32), ∃ (z0 : RT), r = some (.int r1) ∧ w2 = put w a 3 (shT a z0) ∧ K r1 z0) := by
  refine x_aload_n 0 d_X8_readUnit_23 rfl rfl ?_
  refine x_iload_n 1 d_X8_readUnit_24 rfl rfl ?_
  refine x_invV (rest := []) (d' := d - 1) (mc' := 0) (ms' := 0) [.int a0] k_X8_readBareUnit lk_X8_56 gT_0 rfl rfl rfl (Nat.le_of_ble_eq_true rfl) (by omega) (Nat.le_refl _) (Nat.le_refl _) d_X8_readUnit_25 ((sp_X8_readBareUnit (d := d - 1) (by omega) hRS hQ).mono (fun r w2 hr => ?_))
  obtain ⟨r2, s3, rfl, rfl, hQ⟩ := hr
  refine x_if_ne (tgt := 33) d_X8_readUnit_28 (by decide) (fun c_28_4 => ?_) (fun c_28_4 => ?_)
  · have hQ := hQ.1 c_28_4
    refine x_iconst (v := (0 : Int32)) d_X8_readUnit_33 (by decide) ?_
    refine x_istore_n (lv2 := [(3, .int (0 : Int32)), (0, .ref a), (1, .int a0), (2, .int x_2)]) d_X8_readUnit_34 rfl (by decide) rfl ?_
    refine x_sub [1, 3, 0] (lv2 := [(0, .ref a), (2, .int x_2), (3, .int (0 : Int32))]) rfl ?_
    obtain ⟨m, hQ⟩ := hQ
    exact jt_X8_readUnit_35 hd hRS m x_2 (0 : Int32) s3 hQ
  · have hQ := hQ.2 c_28_4
    refine x_iconst (v := (0 : Int32)) d_X8_readUnit_31 (by decide) ?_
    exact x_iret (retB d_X8_readUnit_32 rfl rfl) ⟨_, _, rfl, rfl, hQ⟩
def lp_X8_readUnit_2 (RS : RT → Int32 → (Int32 → RT → Prop) → Prop) (a0 : Int32) (K : Int32 → RT → Prop) : Nat → Int32 → RT → Prop
  | 0, _, _ => False
  | n + 1, x_2, y_0 => (((80 : Int32) ≤ x_2 → jp_X8_readUnit_23 RS a0 K x_2 y_0) ∧ (¬ (80 : Int32) ≤ x_2 → wp_X8_accept y_0 (45 : Int32) (fun (r8 : Int32) (s9 : RT) => ((r8 = (0 : Int32) → jp_X8_readUnit_23 RS a0 K x_2 s9) ∧ (¬ r8 = (0 : Int32) → ∀ x11 : Int32, x11 = x_2 + (1 : Int32) → lp_X8_readUnit_2 RS a0 K n x11 s9)))))
set_option maxHeartbeats 4000000 in
theorem jt_X8_readUnit_2 {G : GX} {l : Launch} {d : Nat} {w : HW} {a : Nat} {e : Nat} {RS : RT → Int32 → (Int32 → RT → Prop) → Prop} {a0 : Int32} {K : Int32 → RT → Prop} (hd : e + 6 ≤ d) (hRS : ∀ (w : HW) (a : Nat) (s : RT) (o : Int32) (K : Int32 → RT → Prop), RS s o K → Sp G l m_X8_readSum e 0 0 [.ref a, .int o] (put w a 3 (shT a s)) (fun r w2 => ∃ (r1 : Int32), ∃ (z0 : RT), r = some (.int r1) ∧ w2 = put w a 3 (shT a z0) ∧ K r1 z0)) : ∀ (n : Nat) (x_2 : Int32) (y_0 : RT), lp_X8_readUnit_2 RS a0 K n x_2 y_0 → X G l m_X8_readUnit d 0 0 0 0 2 [(0, .ref a), (1, .int a0), (2, .int x_2)] [] (put w a 3 (shT a y_0)) (fun r w2 => ∃ (r1 : Int32), ∃ (z0 : RT), r = some (.int r1) ∧ w2 = put w a 3 (shT a z0) ∧ K r1 z0) := by
  intro n
  induction n with
  | zero =>
    intro x_2 y_0 hQ
    exact hQ.elim
  | succ n ih =>
    intro x_2 y_0 hQ
    refine x_iload_n 2 d_X8_readUnit_2 rfl rfl ?_
    refine x_bipush (v := (80 : Int32)) d_X8_readUnit_3 (by decide) ?_
    refine x_icmp_ge (tgt := 23) d_X8_readUnit_5 (by decide) (fun c_5_1 => ?_) (fun c_5_1 => ?_)
    · have hQ := hQ.1 c_5_1
      refine x_sub [0, 1, 2] (lv2 := [(0, .ref a), (1, .int a0), (2, .int x_2)]) rfl ?_
      exact jt_X8_readUnit_23 hd hRS x_2 y_0 hQ
    · have hQ := hQ.2 c_5_1
      refine x_aload_n 0 d_X8_readUnit_8 rfl rfl ?_
      refine x_bipush (v := (45 : Int32)) d_X8_readUnit_9 (by decide) ?_
      refine x_invV (rest := []) (d' := d - 1) (mc' := 0) (ms' := 0) [.int (45 : Int32)] k_X8_accept lk_X8_53 gT_0 rfl rfl rfl (Nat.le_of_ble_eq_true rfl) (by omega) (Nat.le_refl _) (Nat.le_refl _) d_X8_readUnit_11 ((sp_X8_accept (d := d - 1) (by omega) hQ).mono (fun r w2 hr => ?_))
      obtain ⟨r8, s9, rfl, rfl, hQ⟩ := hr
      refine x_if_eq (tgt := 23) d_X8_readUnit_14 (by decide) (fun c_14_10 => ?_) (fun c_14_10 => ?_)
      · have hQ := hQ.1 c_14_10
        refine x_sub [0, 1, 2] (lv2 := [(0, .ref a), (1, .int a0), (2, .int x_2)]) rfl ?_
        exact jt_X8_readUnit_23 hd hRS x_2 s9 hQ
      · have hQ := hQ.2 c_14_10
        obtain ⟨x11, e_x11⟩ : ∃ z : Int32, z = x_2 + (1 : Int32) := ⟨_, rfl⟩
        have hQ := hQ x11 e_x11
        refine x_iinc (v := x11) (lv2 := [(2, .int x11), (0, .ref a), (1, .int a0)]) 2 d_X8_readUnit_17 rfl (by rw [e_x11]; rfl) (by decide) rfl ?_
        refine x_goto (tgt := 2) d_X8_readUnit_20 (by decide) ?_
        refine x_sub [1, 2, 0] (lv2 := [(0, .ref a), (1, .int a0), (2, .int x11)]) rfl ?_
        exact ih x11 s9 hQ
def wp_X8_readUnit (RS : RT → Int32 → (Int32 → RT → Prop) → Prop) (s : RT) (a0 : Int32) (K : Int32 → RT → Prop) : Prop := ∃ m : Nat, lp_X8_readUnit_2 RS a0 K m (0 : Int32) s
set_option maxHeartbeats 4000000 in
theorem sp_X8_readUnit {G : GX} {l : Launch} {d : Nat} {w : HW} {a : Nat} {e : Nat} {RS : RT → Int32 → (Int32 → RT → Prop) → Prop} {s : RT} {a0 : Int32} {K : Int32 → RT → Prop} (hd : e + 6 ≤ d) (hRS : ∀ (w : HW) (a : Nat) (s : RT) (o : Int32) (K : Int32 → RT → Prop), RS s o K → Sp G l m_X8_readSum e 0 0 [.ref a, .int o] (put w a 3 (shT a s)) (fun r w2 => ∃ (r1 : Int32), ∃ (z0 : RT), r = some (.int r1) ∧ w2 = put w a 3 (shT a z0) ∧ K r1 z0)) (hQ : wp_X8_readUnit RS s a0 K) : Sp G l m_X8_readUnit d 0 0 [.ref a, .int a0] (put w a 3 (shT a s)) (fun r w2 => ∃ (r1 : Int32), ∃ (z0 : RT), r = some (.int r1) ∧ w2 = put w a 3 (shT a z0) ∧ K r1 z0) := by
  refine Sp.ofX k_X8_readUnit.1.1 (Nat.le_of_ble_eq_true rfl) ?_
  refine X.lv (lv2 := [(0, .ref a), (1, .int a0)]) rfl ?_
  refine x_iconst (v := (0 : Int32)) d_X8_readUnit_0 (by decide) ?_
  refine x_istore_n (lv2 := [(2, .int (0 : Int32)), (0, .ref a), (1, .int a0)]) d_X8_readUnit_1 rfl (by decide) rfl ?_
  refine x_sub [1, 2, 0] (lv2 := [(0, .ref a), (1, .int a0), (2, .int (0 : Int32))]) rfl ?_
  obtain ⟨m, hQ⟩ := hQ
  exact jt_X8_readUnit_2 hd hRS m (0 : Int32) s hQ
def jp_X8_readTerm_50 (RS : RT → Int32 → (Int32 → RT → Prop) → Prop) (a0 : Int32) (K : Int32 → RT → Prop) (k_12 : Int32 → RT → Prop) (x_2 : Int32) (t_0 : Int32) (y_0 : RT) : Prop := ∀ s9 : RT, s9 = rS y_0 2 ((y_0.2.2 2) + (1 : Int32)) → wp_X8_readUnit RS s9 a0 (fun (r10 : Int32) (s11 : RT) => ((¬ r10 = (0 : Int32) → wp_X8_emit s11 t_0 (0 : Int32) (fun (s13 : RT) => ∀ x14 : Int32, x14 = x_2 + (1 : Int32) → k_12 x14 s13)) ∧ (r10 = (0 : Int32) → K (0 : Int32) s11)))
set_option maxHeartbeats 4000000 in
theorem jt_X8_readTerm_50 {G : GX} {l : Launch} {d : Nat} {w : HW} {a : Nat} {e : Nat} {RS : RT → Int32 → (Int32 → RT → Prop) → Prop} {a0 : Int32} {K : Int32 → RT → Prop} {k_12 : Int32 → RT → Prop} (hd : e + 7 ≤ d) (hRS : ∀ (w : HW) (a : Nat) (s : RT) (o : Int32) (K : Int32 → RT → Prop), RS s o K → Sp G l m_X8_readSum e 0 0 [.ref a, .int o] (put w a 3 (shT a s)) (fun r w2 => ∃ (r1 : Int32), ∃ (z0 : RT), r = some (.int r1) ∧ w2 = put w a 3 (shT a z0) ∧ K r1 z0)) (hk_12 : ∀ (x_2 : Int32) (y_0 : RT), k_12 x_2 y_0 → X G l m_X8_readTerm d 0 0 0 0 12 [(0, .ref a), (1, .int a0), (2, .int x_2)] [] (put w a 3 (shT a y_0)) (fun r w2 => ∃ (r1 : Int32), ∃ (z0 : RT), r = some (.int r1) ∧ w2 = put w a 3 (shT a z0) ∧ K r1 z0)) (x_2 : Int32) (t_0 : Int32) (y_0 : RT) (hQ : jp_X8_readTerm_50 RS a0 K k_12 x_2 t_0 y_0) : X G l m_X8_readTerm d 0 0 0 0 50 [(0, .ref a), (1, .int a0), (2, .int x_2)] [.int t_0] (put w a 3 (shT a y_0)) (fun r w2 => ∃ (r1 : Int32), ∃ (z0 : RT), r = some (.int r1) ∧ w2 = put w a 3 (shT a z0) ∧ K r1 z0) := by
  refine x_istore_n (lv2 := [(3, .int t_0), (0, .ref a), (1, .int a0), (2, .int x_2)]) d_X8_readTerm_50 rfl (by decide) rfl ?_
  refine x_aload_n 1 d_X8_readTerm_51 rfl rfl ?_
  refine x_dup d_X8_readTerm_52 rfl ?_
  refine x_getf 2 gf_X8_26 gT_0 rfl d_X8_readTerm_53 ?_
  refine x_iconst (v := (1 : Int32)) d_X8_readTerm_56 (by decide) ?_
  refine x_iadd d_X8_readTerm_57 ?_
  refine x_putf 2 (.int) pf_X8_26 gT_0 rfl rfl (Nat.le_of_ble_eq_true rfl) d_X8_readTerm_58 ?_
  obtain ⟨s9, e_s9⟩ : ∃ z : RT, z = rS y_0 2 ((y_0.2.2 2) + (1 : Int32)) := ⟨_, rfl⟩
  have hQ := hQ s9 e_s9
  refine X.world (w2 := put w a 3 (shT a s9)) (by rw [e_s9]; exact sT_0_2) ?_
  refine x_aload_n 1 d_X8_readTerm_61 rfl rfl ?_
  refine x_iload_n 2 d_X8_readTerm_62 rfl rfl ?_
  refine x_invV (rest := []) (d' := d - 1) (mc' := 0) (ms' := 0) [.int a0] k_X8_readUnit lk_X8_50 gT_0 rfl rfl rfl (Nat.le_of_ble_eq_true rfl) (by omega) (Nat.le_refl _) (Nat.le_refl _) d_X8_readTerm_63 ((sp_X8_readUnit (d := d - 1) (by omega) hRS hQ).mono (fun r w2 hr => ?_))
  obtain ⟨r10, s11, rfl, rfl, hQ⟩ := hr
  refine x_if_ne (tgt := 71) d_X8_readTerm_66 (by decide) (fun c_66_12 => ?_) (fun c_66_12 => ?_)
  · have hQ := hQ.1 c_66_12
    refine x_aload_n 1 d_X8_readTerm_71 rfl rfl ?_
    refine x_iload_n 0 d_X8_readTerm_72 rfl rfl ?_
    refine x_iconst (v := (0 : Int32)) d_X8_readTerm_73 (by decide) ?_
    refine x_invV (rest := []) (d' := d - 1) (mc' := 0) (ms' := 0) [.int t_0, .int (0 : Int32)] k_X8_emit lk_X8_46 gT_0 rfl rfl rfl (Nat.le_of_ble_eq_true rfl) (by omega) (Nat.le_refl _) (Nat.le_refl _) d_X8_readTerm_74 ((sp_X8_emit (d := d - 1) (by omega) hQ).mono (fun r w2 hr => ?_))
    obtain ⟨s13, rfl, rfl, hQ⟩ := hr
    obtain ⟨x14, e_x14⟩ : ∃ z : Int32, z = x_2 + (1 : Int32) := ⟨_, rfl⟩
    have hQ := hQ x14 e_x14
    refine x_iinc (v := x14) (lv2 := [(2, .int x14), (3, .int t_0), (0, .ref a), (1, .int a0)]) 3 d_X8_readTerm_77 rfl (by rw [e_x14]; rfl) (by decide) rfl ?_
    refine x_goto (tgt := 12) d_X8_readTerm_80 (by decide) ?_
    refine x_sub [2, 3, 0] (lv2 := [(0, .ref a), (1, .int a0), (2, .int x14)]) rfl ?_
    exact hk_12 x14 s13 hQ
  · have hQ := hQ.2 c_66_12
    refine x_iconst (v := (0 : Int32)) d_X8_readTerm_69 (by decide) ?_
    exact x_iret (retB d_X8_readTerm_70 rfl rfl) ⟨_, _, rfl, rfl, hQ⟩
def jp_X8_readTerm_36 (RS : RT → Int32 → (Int32 → RT → Prop) → Prop) (a0 : Int32) (K : Int32 → RT → Prop) (k_12 : Int32 → RT → Prop) (x_2 : Int32) (y_0 : RT) : Prop := wp_X8_sign y_0 (fun (r7 : Int32) => ((¬ r7 = (42 : Int32) → jp_X8_readTerm_50 RS a0 K k_12 x_2 (5 : Int32) y_0) ∧ (r7 = (42 : Int32) → jp_X8_readTerm_50 RS a0 K k_12 x_2 (4 : Int32) y_0)))
set_option maxHeartbeats 4000000 in
theorem jt_X8_readTerm_36 {G : GX} {l : Launch} {d : Nat} {w : HW} {a : Nat} {e : Nat} {RS : RT → Int32 → (Int32 → RT → Prop) → Prop} {a0 : Int32} {K : Int32 → RT → Prop} {k_12 : Int32 → RT → Prop} (hd : e + 7 ≤ d) (hRS : ∀ (w : HW) (a : Nat) (s : RT) (o : Int32) (K : Int32 → RT → Prop), RS s o K → Sp G l m_X8_readSum e 0 0 [.ref a, .int o] (put w a 3 (shT a s)) (fun r w2 => ∃ (r1 : Int32), ∃ (z0 : RT), r = some (.int r1) ∧ w2 = put w a 3 (shT a z0) ∧ K r1 z0)) (hk_12 : ∀ (x_2 : Int32) (y_0 : RT), k_12 x_2 y_0 → X G l m_X8_readTerm d 0 0 0 0 12 [(0, .ref a), (1, .int a0), (2, .int x_2)] [] (put w a 3 (shT a y_0)) (fun r w2 => ∃ (r1 : Int32), ∃ (z0 : RT), r = some (.int r1) ∧ w2 = put w a 3 (shT a z0) ∧ K r1 z0)) (x_2 : Int32) (y_0 : RT) (hQ : jp_X8_readTerm_36 RS a0 K k_12 x_2 y_0) : X G l m_X8_readTerm d 0 0 0 0 36 [(0, .ref a), (1, .int a0), (2, .int x_2)] [] (put w a 3 (shT a y_0)) (fun r w2 => ∃ (r1 : Int32), ∃ (z0 : RT), r = some (.int r1) ∧ w2 = put w a 3 (shT a z0) ∧ K r1 z0) := by
  refine x_aload_n 0 d_X8_readTerm_36 rfl rfl ?_
  refine x_invV (rest := []) (d' := d - 1) (mc' := 0) (ms' := 0) [] k_X8_sign lk_X8_42 gT_0 rfl rfl rfl (Nat.le_of_ble_eq_true rfl) (by omega) (Nat.le_refl _) (Nat.le_refl _) d_X8_readTerm_37 ((sp_X8_sign (d := d - 1) (by omega) hQ).mono (fun r w2 hr => ?_))
  obtain ⟨r7, rfl, rfl, hQ⟩ := hr
  refine x_bipush (v := (42 : Int32)) d_X8_readTerm_40 (by decide) ?_
  refine x_icmp_ne (tgt := 49) d_X8_readTerm_42 (by decide) (fun c_42_8 => ?_) (fun c_42_8 => ?_)
  · have hQ := hQ.1 c_42_8
    refine x_iconst (v := (5 : Int32)) d_X8_readTerm_49 (by decide) ?_
    refine x_sub [0, 1, 2] (lv2 := [(0, .ref a), (1, .int a0), (2, .int x_2)]) rfl ?_
    exact jt_X8_readTerm_50 hd hRS hk_12 x_2 (5 : Int32) y_0 hQ
  · have hQ := hQ.2 c_42_8
    refine x_iconst (v := (4 : Int32)) d_X8_readTerm_45 (by decide) ?_
    refine x_goto (tgt := 50) d_X8_readTerm_46 (by decide) ?_
    refine x_sub [0, 1, 2] (lv2 := [(0, .ref a), (1, .int a0), (2, .int x_2)]) rfl ?_
    exact jt_X8_readTerm_50 hd hRS hk_12 x_2 (4 : Int32) y_0 hQ
def lp_X8_readTerm_12 (RS : RT → Int32 → (Int32 → RT → Prop) → Prop) (a0 : Int32) (K : Int32 → RT → Prop) : Nat → Int32 → RT → Prop
  | 0, _, _ => False
  | n + 1, x_2, y_0 => (((80 : Int32) ≤ x_2 → K (1 : Int32) y_0) ∧ (¬ (80 : Int32) ≤ x_2 → wp_X8_sign y_0 (fun (r5 : Int32) => ((r5 = (42 : Int32) → jp_X8_readTerm_36 RS a0 K (fun v0 v1 => lp_X8_readTerm_12 RS a0 K n v0 v1) x_2 y_0) ∧ (¬ r5 = (42 : Int32) → wp_X8_sign y_0 (fun (r15 : Int32) => ((¬ r15 = (47 : Int32) → K (1 : Int32) y_0) ∧ (r15 = (47 : Int32) → jp_X8_readTerm_36 RS a0 K (fun v0 v1 => lp_X8_readTerm_12 RS a0 K n v0 v1) x_2 y_0))))))))
set_option maxHeartbeats 4000000 in
theorem jt_X8_readTerm_12 {G : GX} {l : Launch} {d : Nat} {w : HW} {a : Nat} {e : Nat} {RS : RT → Int32 → (Int32 → RT → Prop) → Prop} {a0 : Int32} {K : Int32 → RT → Prop} (hd : e + 7 ≤ d) (hRS : ∀ (w : HW) (a : Nat) (s : RT) (o : Int32) (K : Int32 → RT → Prop), RS s o K → Sp G l m_X8_readSum e 0 0 [.ref a, .int o] (put w a 3 (shT a s)) (fun r w2 => ∃ (r1 : Int32), ∃ (z0 : RT), r = some (.int r1) ∧ w2 = put w a 3 (shT a z0) ∧ K r1 z0)) : ∀ (n : Nat) (x_2 : Int32) (y_0 : RT), lp_X8_readTerm_12 RS a0 K n x_2 y_0 → X G l m_X8_readTerm d 0 0 0 0 12 [(0, .ref a), (1, .int a0), (2, .int x_2)] [] (put w a 3 (shT a y_0)) (fun r w2 => ∃ (r1 : Int32), ∃ (z0 : RT), r = some (.int r1) ∧ w2 = put w a 3 (shT a z0) ∧ K r1 z0) := by
  intro n
  induction n with
  | zero =>
    intro x_2 y_0 hQ
    exact hQ.elim
  | succ n ih =>
    intro x_2 y_0 hQ
    refine x_iload_n 2 d_X8_readTerm_12 rfl rfl ?_
    refine x_bipush (v := (80 : Int32)) d_X8_readTerm_13 (by decide) ?_
    refine x_icmp_ge (tgt := 83) d_X8_readTerm_15 (by decide) (fun c_15_4 => ?_) (fun c_15_4 => ?_)
    · have hQ := hQ.1 c_15_4
      refine x_iconst (v := (1 : Int32)) d_X8_readTerm_83 (by decide) ?_
      exact x_iret (retB d_X8_readTerm_84 rfl rfl) ⟨_, _, rfl, rfl, hQ⟩
    · have hQ := hQ.2 c_15_4
      refine x_aload_n 0 d_X8_readTerm_18 rfl rfl ?_
      refine x_invV (rest := []) (d' := d - 1) (mc' := 0) (ms' := 0) [] k_X8_sign lk_X8_42 gT_0 rfl rfl rfl (Nat.le_of_ble_eq_true rfl) (by omega) (Nat.le_refl _) (Nat.le_refl _) d_X8_readTerm_19 ((sp_X8_sign (d := d - 1) (by omega) hQ).mono (fun r w2 hr => ?_))
      obtain ⟨r5, rfl, rfl, hQ⟩ := hr
      refine x_bipush (v := (42 : Int32)) d_X8_readTerm_22 (by decide) ?_
      refine x_icmp_eq (tgt := 36) d_X8_readTerm_24 (by decide) (fun c_24_6 => ?_) (fun c_24_6 => ?_)
      · have hQ := hQ.1 c_24_6
        refine x_sub [0, 1, 2] (lv2 := [(0, .ref a), (1, .int a0), (2, .int x_2)]) rfl ?_
        exact jt_X8_readTerm_36 hd hRS ih x_2 y_0 hQ
      · have hQ := hQ.2 c_24_6
        refine x_aload_n 0 d_X8_readTerm_27 rfl rfl ?_
        refine x_invV (rest := []) (d' := d - 1) (mc' := 0) (ms' := 0) [] k_X8_sign lk_X8_42 gT_0 rfl rfl rfl (Nat.le_of_ble_eq_true rfl) (by omega) (Nat.le_refl _) (Nat.le_refl _) d_X8_readTerm_28 ((sp_X8_sign (d := d - 1) (by omega) hQ).mono (fun r w2 hr => ?_))
        obtain ⟨r15, rfl, rfl, hQ⟩ := hr
        refine x_bipush (v := (47 : Int32)) d_X8_readTerm_31 (by decide) ?_
        refine x_icmp_ne (tgt := 83) d_X8_readTerm_33 (by decide) (fun c_33_16 => ?_) (fun c_33_16 => ?_)
        · have hQ := hQ.1 c_33_16
          refine x_iconst (v := (1 : Int32)) d_X8_readTerm_83 (by decide) ?_
          exact x_iret (retB d_X8_readTerm_84 rfl rfl) ⟨_, _, rfl, rfl, hQ⟩
        · have hQ := hQ.2 c_33_16
          refine x_sub [0, 1, 2] (lv2 := [(0, .ref a), (1, .int a0), (2, .int x_2)]) rfl ?_
          exact jt_X8_readTerm_36 hd hRS ih x_2 y_0 hQ
def wp_X8_readTerm (RS : RT → Int32 → (Int32 → RT → Prop) → Prop) (s : RT) (a0 : Int32) (K : Int32 → RT → Prop) : Prop := wp_X8_readUnit RS s a0 (fun (r1 : Int32) (s2 : RT) => ((¬ r1 = (0 : Int32) → ∃ m : Nat, lp_X8_readTerm_12 RS a0 K m (0 : Int32) s2) ∧ (r1 = (0 : Int32) → K (0 : Int32) s2)))
set_option maxHeartbeats 4000000 in
theorem sp_X8_readTerm {G : GX} {l : Launch} {d : Nat} {w : HW} {a : Nat} {e : Nat} {RS : RT → Int32 → (Int32 → RT → Prop) → Prop} {s : RT} {a0 : Int32} {K : Int32 → RT → Prop} (hd : e + 7 ≤ d) (hRS : ∀ (w : HW) (a : Nat) (s : RT) (o : Int32) (K : Int32 → RT → Prop), RS s o K → Sp G l m_X8_readSum e 0 0 [.ref a, .int o] (put w a 3 (shT a s)) (fun r w2 => ∃ (r1 : Int32), ∃ (z0 : RT), r = some (.int r1) ∧ w2 = put w a 3 (shT a z0) ∧ K r1 z0)) (hQ : wp_X8_readTerm RS s a0 K) : Sp G l m_X8_readTerm d 0 0 [.ref a, .int a0] (put w a 3 (shT a s)) (fun r w2 => ∃ (r1 : Int32), ∃ (z0 : RT), r = some (.int r1) ∧ w2 = put w a 3 (shT a z0) ∧ K r1 z0) := by
  refine Sp.ofX k_X8_readTerm.1.1 (Nat.le_of_ble_eq_true rfl) ?_
  refine X.lv (lv2 := [(0, .ref a), (1, .int a0)]) rfl ?_
  refine x_aload_n 0 d_X8_readTerm_0 rfl rfl ?_
  refine x_iload_n 1 d_X8_readTerm_1 rfl rfl ?_
  refine x_invV (rest := []) (d' := d - 1) (mc' := 0) (ms' := 0) [.int a0] k_X8_readUnit lk_X8_50 gT_0 rfl rfl rfl (Nat.le_of_ble_eq_true rfl) (by omega) (Nat.le_refl _) (Nat.le_refl _) d_X8_readTerm_2 ((sp_X8_readUnit (d := d - 1) (by omega) hRS hQ).mono (fun r w2 hr => ?_))
  obtain ⟨r1, s2, rfl, rfl, hQ⟩ := hr
  refine x_if_ne (tgt := 10) d_X8_readTerm_5 (by decide) (fun c_5_3 => ?_) (fun c_5_3 => ?_)
  · have hQ := hQ.1 c_5_3
    refine x_iconst (v := (0 : Int32)) d_X8_readTerm_10 (by decide) ?_
    refine x_istore_n (lv2 := [(2, .int (0 : Int32)), (0, .ref a), (1, .int a0)]) d_X8_readTerm_11 rfl (by decide) rfl ?_
    refine x_sub [1, 2, 0] (lv2 := [(0, .ref a), (1, .int a0), (2, .int (0 : Int32))]) rfl ?_
    obtain ⟨m, hQ⟩ := hQ
    exact jt_X8_readTerm_12 hd hRS m (0 : Int32) s2 hQ
  · have hQ := hQ.2 c_5_3
    refine x_iconst (v := (0 : Int32)) d_X8_readTerm_8 (by decide) ?_
    exact x_iret (retB d_X8_readTerm_9 rfl rfl) ⟨_, _, rfl, rfl, hQ⟩
def jp_X8_readSum_56 (RS : RT → Int32 → (Int32 → RT → Prop) → Prop) (a0 : Int32) (K : Int32 → RT → Prop) (k_18 : Int32 → RT → Prop) (x_2 : Int32) (t_0 : Int32) (y_0 : RT) : Prop := ∀ s10 : RT, s10 = rS y_0 2 ((y_0.2.2 2) + (1 : Int32)) → wp_X8_readTerm RS s10 a0 (fun (r11 : Int32) (s12 : RT) => ((¬ r11 = (0 : Int32) → wp_X8_emit s12 t_0 (0 : Int32) (fun (s14 : RT) => ∀ x15 : Int32, x15 = x_2 + (1 : Int32) → k_18 x15 s14)) ∧ (r11 = (0 : Int32) → K (0 : Int32) s12)))
set_option maxHeartbeats 4000000 in
theorem jt_X8_readSum_56 {G : GX} {l : Launch} {d : Nat} {w : HW} {a : Nat} {e : Nat} {RS : RT → Int32 → (Int32 → RT → Prop) → Prop} {a0 : Int32} {K : Int32 → RT → Prop} {k_18 : Int32 → RT → Prop} (hd : e + 8 ≤ d) (hRS : ∀ (w : HW) (a : Nat) (s : RT) (o : Int32) (K : Int32 → RT → Prop), RS s o K → Sp G l m_X8_readSum e 0 0 [.ref a, .int o] (put w a 3 (shT a s)) (fun r w2 => ∃ (r1 : Int32), ∃ (z0 : RT), r = some (.int r1) ∧ w2 = put w a 3 (shT a z0) ∧ K r1 z0)) (hk_18 : ∀ (x_2 : Int32) (y_0 : RT), k_18 x_2 y_0 → X G l m_X8_readSum d 0 0 0 0 18 [(0, .ref a), (1, .int a0), (2, .int x_2)] [] (put w a 3 (shT a y_0)) (fun r w2 => ∃ (r1 : Int32), ∃ (z0 : RT), r = some (.int r1) ∧ w2 = put w a 3 (shT a z0) ∧ K r1 z0)) (x_2 : Int32) (t_0 : Int32) (y_0 : RT) (hQ : jp_X8_readSum_56 RS a0 K k_18 x_2 t_0 y_0) : X G l m_X8_readSum d 0 0 0 0 56 [(0, .ref a), (1, .int a0), (2, .int x_2)] [.int t_0] (put w a 3 (shT a y_0)) (fun r w2 => ∃ (r1 : Int32), ∃ (z0 : RT), r = some (.int r1) ∧ w2 = put w a 3 (shT a z0) ∧ K r1 z0) := by
  refine x_istore_n (lv2 := [(3, .int t_0), (0, .ref a), (1, .int a0), (2, .int x_2)]) d_X8_readSum_56 rfl (by decide) rfl ?_
  refine x_aload_n 1 d_X8_readSum_57 rfl rfl ?_
  refine x_dup d_X8_readSum_58 rfl ?_
  refine x_getf 2 gf_X8_26 gT_0 rfl d_X8_readSum_59 ?_
  refine x_iconst (v := (1 : Int32)) d_X8_readSum_62 (by decide) ?_
  refine x_iadd d_X8_readSum_63 ?_
  refine x_putf 2 (.int) pf_X8_26 gT_0 rfl rfl (Nat.le_of_ble_eq_true rfl) d_X8_readSum_64 ?_
  obtain ⟨s10, e_s10⟩ : ∃ z : RT, z = rS y_0 2 ((y_0.2.2 2) + (1 : Int32)) := ⟨_, rfl⟩
  have hQ := hQ s10 e_s10
  refine X.world (w2 := put w a 3 (shT a s10)) (by rw [e_s10]; exact sT_0_2) ?_
  refine x_aload_n 1 d_X8_readSum_67 rfl rfl ?_
  refine x_iload_n 2 d_X8_readSum_68 rfl rfl ?_
  refine x_invV (rest := []) (d' := d - 1) (mc' := 0) (ms' := 0) [.int a0] k_X8_readTerm lk_X8_39 gT_0 rfl rfl rfl (Nat.le_of_ble_eq_true rfl) (by omega) (Nat.le_refl _) (Nat.le_refl _) d_X8_readSum_69 ((sp_X8_readTerm (d := d - 1) (by omega) hRS hQ).mono (fun r w2 hr => ?_))
  obtain ⟨r11, s12, rfl, rfl, hQ⟩ := hr
  refine x_if_ne (tgt := 77) d_X8_readSum_72 (by decide) (fun c_72_13 => ?_) (fun c_72_13 => ?_)
  · have hQ := hQ.1 c_72_13
    refine x_aload_n 1 d_X8_readSum_77 rfl rfl ?_
    refine x_iload_n 0 d_X8_readSum_78 rfl rfl ?_
    refine x_iconst (v := (0 : Int32)) d_X8_readSum_79 (by decide) ?_
    refine x_invV (rest := []) (d' := d - 1) (mc' := 0) (ms' := 0) [.int t_0, .int (0 : Int32)] k_X8_emit lk_X8_46 gT_0 rfl rfl rfl (Nat.le_of_ble_eq_true rfl) (by omega) (Nat.le_refl _) (Nat.le_refl _) d_X8_readSum_80 ((sp_X8_emit (d := d - 1) (by omega) hQ).mono (fun r w2 hr => ?_))
    obtain ⟨s14, rfl, rfl, hQ⟩ := hr
    obtain ⟨x15, e_x15⟩ : ∃ z : Int32, z = x_2 + (1 : Int32) := ⟨_, rfl⟩
    have hQ := hQ x15 e_x15
    refine x_iinc (v := x15) (lv2 := [(2, .int x15), (3, .int t_0), (0, .ref a), (1, .int a0)]) 3 d_X8_readSum_83 rfl (by rw [e_x15]; rfl) (by decide) rfl ?_
    refine x_goto (tgt := 18) d_X8_readSum_86 (by decide) ?_
    refine x_sub [2, 3, 0] (lv2 := [(0, .ref a), (1, .int a0), (2, .int x15)]) rfl ?_
    exact hk_18 x15 s14 hQ
  · have hQ := hQ.2 c_72_13
    refine x_iconst (v := (0 : Int32)) d_X8_readSum_75 (by decide) ?_
    exact x_iret (retB d_X8_readSum_76 rfl rfl) ⟨_, _, rfl, rfl, hQ⟩
def jp_X8_readSum_42 (RS : RT → Int32 → (Int32 → RT → Prop) → Prop) (a0 : Int32) (K : Int32 → RT → Prop) (k_18 : Int32 → RT → Prop) (x_2 : Int32) (y_0 : RT) : Prop := wp_X8_sign y_0 (fun (r8 : Int32) => ((¬ r8 = (43 : Int32) → jp_X8_readSum_56 RS a0 K k_18 x_2 (3 : Int32) y_0) ∧ (r8 = (43 : Int32) → jp_X8_readSum_56 RS a0 K k_18 x_2 (2 : Int32) y_0)))
set_option maxHeartbeats 4000000 in
theorem jt_X8_readSum_42 {G : GX} {l : Launch} {d : Nat} {w : HW} {a : Nat} {e : Nat} {RS : RT → Int32 → (Int32 → RT → Prop) → Prop} {a0 : Int32} {K : Int32 → RT → Prop} {k_18 : Int32 → RT → Prop} (hd : e + 8 ≤ d) (hRS : ∀ (w : HW) (a : Nat) (s : RT) (o : Int32) (K : Int32 → RT → Prop), RS s o K → Sp G l m_X8_readSum e 0 0 [.ref a, .int o] (put w a 3 (shT a s)) (fun r w2 => ∃ (r1 : Int32), ∃ (z0 : RT), r = some (.int r1) ∧ w2 = put w a 3 (shT a z0) ∧ K r1 z0)) (hk_18 : ∀ (x_2 : Int32) (y_0 : RT), k_18 x_2 y_0 → X G l m_X8_readSum d 0 0 0 0 18 [(0, .ref a), (1, .int a0), (2, .int x_2)] [] (put w a 3 (shT a y_0)) (fun r w2 => ∃ (r1 : Int32), ∃ (z0 : RT), r = some (.int r1) ∧ w2 = put w a 3 (shT a z0) ∧ K r1 z0)) (x_2 : Int32) (y_0 : RT) (hQ : jp_X8_readSum_42 RS a0 K k_18 x_2 y_0) : X G l m_X8_readSum d 0 0 0 0 42 [(0, .ref a), (1, .int a0), (2, .int x_2)] [] (put w a 3 (shT a y_0)) (fun r w2 => ∃ (r1 : Int32), ∃ (z0 : RT), r = some (.int r1) ∧ w2 = put w a 3 (shT a z0) ∧ K r1 z0) := by
  refine x_aload_n 0 d_X8_readSum_42 rfl rfl ?_
  refine x_invV (rest := []) (d' := d - 1) (mc' := 0) (ms' := 0) [] k_X8_sign lk_X8_42 gT_0 rfl rfl rfl (Nat.le_of_ble_eq_true rfl) (by omega) (Nat.le_refl _) (Nat.le_refl _) d_X8_readSum_43 ((sp_X8_sign (d := d - 1) (by omega) hQ).mono (fun r w2 hr => ?_))
  obtain ⟨r8, rfl, rfl, hQ⟩ := hr
  refine x_bipush (v := (43 : Int32)) d_X8_readSum_46 (by decide) ?_
  refine x_icmp_ne (tgt := 55) d_X8_readSum_48 (by decide) (fun c_48_9 => ?_) (fun c_48_9 => ?_)
  · have hQ := hQ.1 c_48_9
    refine x_iconst (v := (3 : Int32)) d_X8_readSum_55 (by decide) ?_
    refine x_sub [0, 1, 2] (lv2 := [(0, .ref a), (1, .int a0), (2, .int x_2)]) rfl ?_
    exact jt_X8_readSum_56 hd hRS hk_18 x_2 (3 : Int32) y_0 hQ
  · have hQ := hQ.2 c_48_9
    refine x_iconst (v := (2 : Int32)) d_X8_readSum_51 (by decide) ?_
    refine x_goto (tgt := 56) d_X8_readSum_52 (by decide) ?_
    refine x_sub [0, 1, 2] (lv2 := [(0, .ref a), (1, .int a0), (2, .int x_2)]) rfl ?_
    exact jt_X8_readSum_56 hd hRS hk_18 x_2 (2 : Int32) y_0 hQ
def lp_X8_readSum_18 (RS : RT → Int32 → (Int32 → RT → Prop) → Prop) (a0 : Int32) (K : Int32 → RT → Prop) : Nat → Int32 → RT → Prop
  | 0, _, _ => False
  | n + 1, x_2, y_0 => (((80 : Int32) ≤ x_2 → K (1 : Int32) y_0) ∧ (¬ (80 : Int32) ≤ x_2 → wp_X8_sign y_0 (fun (r6 : Int32) => ((r6 = (43 : Int32) → jp_X8_readSum_42 RS a0 K (fun v0 v1 => lp_X8_readSum_18 RS a0 K n v0 v1) x_2 y_0) ∧ (¬ r6 = (43 : Int32) → wp_X8_sign y_0 (fun (r16 : Int32) => ((¬ r16 = (45 : Int32) → K (1 : Int32) y_0) ∧ (r16 = (45 : Int32) → jp_X8_readSum_42 RS a0 K (fun v0 v1 => lp_X8_readSum_18 RS a0 K n v0 v1) x_2 y_0))))))))
set_option maxHeartbeats 4000000 in
theorem jt_X8_readSum_18 {G : GX} {l : Launch} {d : Nat} {w : HW} {a : Nat} {e : Nat} {RS : RT → Int32 → (Int32 → RT → Prop) → Prop} {a0 : Int32} {K : Int32 → RT → Prop} (hd : e + 8 ≤ d) (hRS : ∀ (w : HW) (a : Nat) (s : RT) (o : Int32) (K : Int32 → RT → Prop), RS s o K → Sp G l m_X8_readSum e 0 0 [.ref a, .int o] (put w a 3 (shT a s)) (fun r w2 => ∃ (r1 : Int32), ∃ (z0 : RT), r = some (.int r1) ∧ w2 = put w a 3 (shT a z0) ∧ K r1 z0)) : ∀ (n : Nat) (x_2 : Int32) (y_0 : RT), lp_X8_readSum_18 RS a0 K n x_2 y_0 → X G l m_X8_readSum d 0 0 0 0 18 [(0, .ref a), (1, .int a0), (2, .int x_2)] [] (put w a 3 (shT a y_0)) (fun r w2 => ∃ (r1 : Int32), ∃ (z0 : RT), r = some (.int r1) ∧ w2 = put w a 3 (shT a z0) ∧ K r1 z0) := by
  intro n
  induction n with
  | zero =>
    intro x_2 y_0 hQ
    exact hQ.elim
  | succ n ih =>
    intro x_2 y_0 hQ
    refine x_iload_n 2 d_X8_readSum_18 rfl rfl ?_
    refine x_bipush (v := (80 : Int32)) d_X8_readSum_19 (by decide) ?_
    refine x_icmp_ge (tgt := 89) d_X8_readSum_21 (by decide) (fun c_21_5 => ?_) (fun c_21_5 => ?_)
    · have hQ := hQ.1 c_21_5
      refine x_iconst (v := (1 : Int32)) d_X8_readSum_89 (by decide) ?_
      exact x_iret (retB d_X8_readSum_90 rfl rfl) ⟨_, _, rfl, rfl, hQ⟩
    · have hQ := hQ.2 c_21_5
      refine x_aload_n 0 d_X8_readSum_24 rfl rfl ?_
      refine x_invV (rest := []) (d' := d - 1) (mc' := 0) (ms' := 0) [] k_X8_sign lk_X8_42 gT_0 rfl rfl rfl (Nat.le_of_ble_eq_true rfl) (by omega) (Nat.le_refl _) (Nat.le_refl _) d_X8_readSum_25 ((sp_X8_sign (d := d - 1) (by omega) hQ).mono (fun r w2 hr => ?_))
      obtain ⟨r6, rfl, rfl, hQ⟩ := hr
      refine x_bipush (v := (43 : Int32)) d_X8_readSum_28 (by decide) ?_
      refine x_icmp_eq (tgt := 42) d_X8_readSum_30 (by decide) (fun c_30_7 => ?_) (fun c_30_7 => ?_)
      · have hQ := hQ.1 c_30_7
        refine x_sub [0, 1, 2] (lv2 := [(0, .ref a), (1, .int a0), (2, .int x_2)]) rfl ?_
        exact jt_X8_readSum_42 hd hRS ih x_2 y_0 hQ
      · have hQ := hQ.2 c_30_7
        refine x_aload_n 0 d_X8_readSum_33 rfl rfl ?_
        refine x_invV (rest := []) (d' := d - 1) (mc' := 0) (ms' := 0) [] k_X8_sign lk_X8_42 gT_0 rfl rfl rfl (Nat.le_of_ble_eq_true rfl) (by omega) (Nat.le_refl _) (Nat.le_refl _) d_X8_readSum_34 ((sp_X8_sign (d := d - 1) (by omega) hQ).mono (fun r w2 hr => ?_))
        obtain ⟨r16, rfl, rfl, hQ⟩ := hr
        refine x_bipush (v := (45 : Int32)) d_X8_readSum_37 (by decide) ?_
        refine x_icmp_ne (tgt := 89) d_X8_readSum_39 (by decide) (fun c_39_17 => ?_) (fun c_39_17 => ?_)
        · have hQ := hQ.1 c_39_17
          refine x_iconst (v := (1 : Int32)) d_X8_readSum_89 (by decide) ?_
          exact x_iret (retB d_X8_readSum_90 rfl rfl) ⟨_, _, rfl, rfl, hQ⟩
        · have hQ := hQ.2 c_39_17
          refine x_sub [0, 1, 2] (lv2 := [(0, .ref a), (1, .int a0), (2, .int x_2)]) rfl ?_
          exact jt_X8_readSum_42 hd hRS ih x_2 y_0 hQ
def wp_X8_readSum (RS : RT → Int32 → (Int32 → RT → Prop) → Prop) (s : RT) (a0 : Int32) (K : Int32 → RT → Prop) : Prop := (((6 : Int32) < a0 → K (0 : Int32) s) ∧ (¬ (6 : Int32) < a0 → wp_X8_readTerm RS s a0 (fun (r2 : Int32) (s3 : RT) => ((¬ r2 = (0 : Int32) → ∃ m : Nat, lp_X8_readSum_18 RS a0 K m (0 : Int32) s3) ∧ (r2 = (0 : Int32) → K (0 : Int32) s3)))))
set_option maxHeartbeats 4000000 in
theorem sp_X8_readSum {G : GX} {l : Launch} {d : Nat} {w : HW} {a : Nat} {e : Nat} {RS : RT → Int32 → (Int32 → RT → Prop) → Prop} {s : RT} {a0 : Int32} {K : Int32 → RT → Prop} (hd : e + 8 ≤ d) (hRS : ∀ (w : HW) (a : Nat) (s : RT) (o : Int32) (K : Int32 → RT → Prop), RS s o K → Sp G l m_X8_readSum e 0 0 [.ref a, .int o] (put w a 3 (shT a s)) (fun r w2 => ∃ (r1 : Int32), ∃ (z0 : RT), r = some (.int r1) ∧ w2 = put w a 3 (shT a z0) ∧ K r1 z0)) (hQ : wp_X8_readSum RS s a0 K) : Sp G l m_X8_readSum d 0 0 [.ref a, .int a0] (put w a 3 (shT a s)) (fun r w2 => ∃ (r1 : Int32), ∃ (z0 : RT), r = some (.int r1) ∧ w2 = put w a 3 (shT a z0) ∧ K r1 z0) := by
  refine Sp.ofX k_X8_readSum.1.1 (Nat.le_of_ble_eq_true rfl) ?_
  refine X.lv (lv2 := [(0, .ref a), (1, .int a0)]) rfl ?_
  refine x_iload_n 1 d_X8_readSum_0 rfl rfl ?_
  refine x_bipush (v := (6 : Int32)) d_X8_readSum_1 (by decide) ?_
  refine x_icmp_gt (tgt := 14) d_X8_readSum_3 (by decide) (fun c_3_1 => ?_) (fun c_3_1 => ?_)
  · have hQ := hQ.1 c_3_1
    refine x_iconst (v := (0 : Int32)) d_X8_readSum_14 (by decide) ?_
    exact x_iret (retB d_X8_readSum_15 rfl rfl) ⟨_, _, rfl, rfl, hQ⟩
  · have hQ := hQ.2 c_3_1
    refine x_aload_n 0 d_X8_readSum_6 rfl rfl ?_
    refine x_iload_n 1 d_X8_readSum_7 rfl rfl ?_
    refine x_invV (rest := []) (d' := d - 1) (mc' := 0) (ms' := 0) [.int a0] k_X8_readTerm lk_X8_39 gT_0 rfl rfl rfl (Nat.le_of_ble_eq_true rfl) (by omega) (Nat.le_refl _) (Nat.le_refl _) d_X8_readSum_8 ((sp_X8_readTerm (d := d - 1) (by omega) hRS hQ).mono (fun r w2 hr => ?_))
    obtain ⟨r2, s3, rfl, rfl, hQ⟩ := hr
    refine x_if_ne (tgt := 16) d_X8_readSum_11 (by decide) (fun c_11_4 => ?_) (fun c_11_4 => ?_)
    · have hQ := hQ.1 c_11_4
      refine x_iconst (v := (0 : Int32)) d_X8_readSum_16 (by decide) ?_
      refine x_istore_n (lv2 := [(2, .int (0 : Int32)), (0, .ref a), (1, .int a0)]) d_X8_readSum_17 rfl (by decide) rfl ?_
      refine x_sub [1, 2, 0] (lv2 := [(0, .ref a), (1, .int a0), (2, .int (0 : Int32))]) rfl ?_
      obtain ⟨m, hQ⟩ := hQ
      exact jt_X8_readSum_18 hd hRS m (0 : Int32) s3 hQ
    · have hQ := hQ.2 c_11_4
      refine x_iconst (v := (0 : Int32)) d_X8_readSum_14 (by decide) ?_
      exact x_iret (retB d_X8_readSum_15 rfl rfl) ⟨_, _, rfl, rfl, hQ⟩
/-- reading a sum, to a depth of brackets -/
def wr_readSum : Nat → RT → Int32 → (Int32 → RT → Prop) → Prop
  | 0, _, _, _ => False
  | n + 1, s, o, K => wp_X8_readSum (fun s2 o2 K2 => wr_readSum n s2 o2 K2) s o K
theorem spr_readSum {G : GX} {l : Launch} : ∀ (n d : Nat) (hd : 8 * n + 3 ≤ d) (w : HW) (a : Nat) (s : RT) (o : Int32) (K : Int32 → RT → Prop), wr_readSum n s o K → Sp G l m_X8_readSum d 0 0 [.ref a, .int o] (put w a 3 (shT a s)) (fun r w2 => ∃ (r1 : Int32), ∃ (z0 : RT), r = some (.int r1) ∧ w2 = put w a 3 (shT a z0) ∧ K r1 z0) := by
  intro n
  induction n with
  | zero => intro d hd w a s o K h; exact h.elim
  | succ n ih =>
    intro d hd w a s o K h
    exact sp_X8_readSum (RS := fun s2 o2 K2 => wr_readSum n s2 o2 K2) (e := 8 * n + 3) (by omega) (fun w a s o K h => ih _ (Nat.le_refl _) w a s o K h) h
def wp_X8_readSum8 (s : RT) (o : Int32) (K : Int32 → RT → Prop) : Prop := wr_readSum 8 s o K
theorem sp_X8_readSum8 {G : GX} {l : Launch} {d : Nat} {w : HW} {a : Nat} {s : RT} {o : Int32} {K : Int32 → RT → Prop} (hd : 67 ≤ d) (hQ : wp_X8_readSum8 s o K) : Sp G l m_X8_readSum d 0 0 [.ref a, .int o] (put w a 3 (shT a s)) (fun r w2 => ∃ (r1 : Int32), ∃ (z0 : RT), r = some (.int r1) ∧ w2 = put w a 3 (shT a z0) ∧ K r1 z0) := spr_readSum 8 d hd w a s o K hQ

def wp_X8_read (s : RT) (K : Int32 → RT → Prop) : Prop := ∀ s1 : RT, s1 = rS s 2 (0 : Int32) → ∀ s2 : RT, s2 = rS s1 4 (0 : Int32) → ∀ s3 : RT, s3 = rS s2 5 (0 : Int32) → wp_X8_readSum8 s3 (0 : Int32) (fun (r4 : Int32) (s5 : RT) => ((r4 = (0 : Int32) → K (s5.2.2 2) s5) ∧ (¬ r4 = (0 : Int32) → ((¬ (s5.2.2 2) = (s5.2.2 1) → K (s5.2.2 2) s5) ∧ ((s5.2.2 2) = (s5.2.2 1) → K (-1 : Int32) s5)))))
set_option maxHeartbeats 4000000 in
theorem sp_X8_read {G : GX} {l : Launch} {d : Nat} {w : HW} {a : Nat} {s : RT} {K : Int32 → RT → Prop} (hd : 68 ≤ d) (hQ : wp_X8_read s K) : Sp G l m_X8_read d 0 0 [.ref a] (put w a 3 (shT a s)) (fun r w2 => ∃ (r1 : Int32), ∃ (z0 : RT), r = some (.int r1) ∧ w2 = put w a 3 (shT a z0) ∧ K r1 z0) := by
  refine Sp.ofX k_X8_read.1.1 (Nat.le_of_ble_eq_true rfl) ?_
  refine X.lv (lv2 := [(0, .ref a)]) rfl ?_
  refine x_aload_n 0 d_X8_read_0 rfl rfl ?_
  refine x_iconst (v := (0 : Int32)) d_X8_read_1 (by decide) ?_
  refine x_putf 2 (.int) pf_X8_26 gT_0 rfl rfl (Nat.le_of_ble_eq_true rfl) d_X8_read_2 ?_
  obtain ⟨s1, e_s1⟩ : ∃ z : RT, z = rS s 2 (0 : Int32) := ⟨_, rfl⟩
  have hQ := hQ s1 e_s1
  refine X.world (w2 := put w a 3 (shT a s1)) (by rw [e_s1]; exact sT_0_2) ?_
  refine x_aload_n 0 d_X8_read_5 rfl rfl ?_
  refine x_iconst (v := (0 : Int32)) d_X8_read_6 (by decide) ?_
  refine x_putf 4 (.int) pf_X8_29 gT_0 rfl rfl (Nat.le_of_ble_eq_true rfl) d_X8_read_7 ?_
  obtain ⟨s2, e_s2⟩ : ∃ z : RT, z = rS s1 4 (0 : Int32) := ⟨_, rfl⟩
  have hQ := hQ s2 e_s2
  refine X.world (w2 := put w a 3 (shT a s2)) (by rw [e_s2]; exact sT_0_4) ?_
  refine x_aload_n 0 d_X8_read_10 rfl rfl ?_
  refine x_iconst (v := (0 : Int32)) d_X8_read_11 (by decide) ?_
  refine x_putf 5 (.int) pf_X8_32 gT_0 rfl rfl (Nat.le_of_ble_eq_true rfl) d_X8_read_12 ?_
  obtain ⟨s3, e_s3⟩ : ∃ z : RT, z = rS s2 5 (0 : Int32) := ⟨_, rfl⟩
  have hQ := hQ s3 e_s3
  refine X.world (w2 := put w a 3 (shT a s3)) (by rw [e_s3]; exact sT_0_5) ?_
  refine x_aload_n 0 d_X8_read_15 rfl rfl ?_
  refine x_iconst (v := (0 : Int32)) d_X8_read_16 (by decide) ?_
  refine x_invV (rest := []) (d' := d - 1) (mc' := 0) (ms' := 0) [.int (0 : Int32)] k_X8_readSum lk_X8_35 gT_0 rfl rfl rfl (Nat.le_of_ble_eq_true rfl) (by omega) (Nat.le_refl _) (Nat.le_refl _) d_X8_read_17 ((sp_X8_readSum8 (d := d - 1) (by omega) hQ).mono (fun r w2 hr => ?_))
  obtain ⟨r4, s5, rfl, rfl, hQ⟩ := hr
  refine x_istore_n (lv2 := [(1, .int r4), (0, .ref a)]) d_X8_read_20 rfl (by decide) rfl ?_
  refine x_iload_n 0 d_X8_read_21 rfl rfl ?_
  refine x_if_eq (tgt := 40) d_X8_read_22 (by decide) (fun c_22_6 => ?_) (fun c_22_6 => ?_)
  · have hQ := hQ.1 c_22_6
    refine x_aload_n 1 d_X8_read_40 rfl rfl ?_
    refine x_getf 2 gf_X8_26 gT_0 rfl d_X8_read_41 ?_
    exact x_iret (retI d_X8_read_44 rfl) ⟨_, _, rfl, rfl, hQ⟩
  · have hQ := hQ.2 c_22_6
    refine x_aload_n 1 d_X8_read_25 rfl rfl ?_
    refine x_getf 2 gf_X8_26 gT_0 rfl d_X8_read_26 ?_
    refine x_aload_n 1 d_X8_read_29 rfl rfl ?_
    refine x_getf 1 gf_X8_18 gT_0 rfl d_X8_read_30 ?_
    refine x_icmp_ne (tgt := 40) d_X8_read_33 (by decide) (fun c_33_7 => ?_) (fun c_33_7 => ?_)
    · have hQ := hQ.1 c_33_7
      refine x_aload_n 1 d_X8_read_40 rfl rfl ?_
      refine x_getf 2 gf_X8_26 gT_0 rfl d_X8_read_41 ?_
      exact x_iret (retI d_X8_read_44 rfl) ⟨_, _, rfl, rfl, hQ⟩
    · have hQ := hQ.2 c_33_7
      refine x_iconst (v := (-1 : Int32)) d_X8_read_36 (by decide) ?_
      refine x_goto (tgt := 44) d_X8_read_37 (by decide) ?_
      exact x_iret (retI d_X8_read_44 rfl) ⟨_, _, rfl, rfl, hQ⟩
