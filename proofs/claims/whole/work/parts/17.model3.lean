def wp_X10_anew (s : RT) (K : RT → Prop) : Prop := vp_in (291 : Int32) 812 ∧ ∀ s1 : RT, s1 = rI s 1 (upd (s.1 1) (291 : Int32).toNatClampNeg (0 : Int32)) → wp_X10_solvesAll s1 (fun (s2 : RT) => K s2)
set_option maxHeartbeats 4000000 in
theorem sp_X10_anew {G : GX} {l : Launch} {d : Nat} {w : HW} {a : Nat} {s : RT} {K : RT → Prop} (hd : 9 ≤ d) (hQ : wp_X10_anew s K) : Sp G l m_X10_anew d 0 0 [.ref a] (put w a 22 (shM a s)) (fun r w2 => ∃ (z0 : RT), r = none ∧ w2 = put w a 22 (shM a z0) ∧ K z0) := by
  refine Sp.ofX k_X10_anew.1.1 (Nat.le_of_ble_eq_true rfl) ?_
  refine X.lv (lv2 := [(0, .ref a)]) rfl ?_
  refine x_aload_n 0 d_X10_anew_0 rfl rfl ?_
  refine x_getf 0 gf_X10_7 gM_0 rfl d_X10_anew_1 ?_
  refine x_sipush (v := (291 : Int32)) d_X10_anew_4 (by decide) ?_
  refine x_iconst (v := (0 : Int32)) d_X10_anew_7 (by decide) ?_
  have hN := hQ.1
  have hQ := hQ.2
  refine x_iast gM_1 hN d_X10_anew_8 ?_
  obtain ⟨s1, e_s1⟩ : ∃ z : RT, z = rI s 1 (upd (s.1 1) (291 : Int32).toNatClampNeg (0 : Int32)) := ⟨_, rfl⟩
  have hQ := hQ s1 e_s1
  refine X.world (w2 := put w a 22 (shM a s1)) (by rw [e_s1]; exact sM_1) ?_
  refine x_aload_n 0 d_X10_anew_9 rfl rfl ?_
  refine x_invV (rest := []) (d' := d - 1) (mc' := 0) (ms' := 0) [] k_X10_solvesAll lk_X10_74 gM_0 rfl rfl rfl (Nat.le_of_ble_eq_true rfl) (by omega) (Nat.le_refl _) (Nat.le_refl _) d_X10_anew_10 ((sp_X10_solvesAll (d := d - 1) (by omega) hQ).mono (fun r w2 hr => ?_))
  obtain ⟨s2, rfl, rfl, hQ⟩ := hr
  exact x_vret (retV d_X10_anew_13 rfl) ⟨_, rfl, rfl, hQ⟩
def lp_X10_undo_22 (K : Int32 → RT → Prop) : Nat → Int32 → RT → Prop
  | 0, _, _ => False
  | n + 1, x_1, y_0 => (((812 : Int32) ≤ x_1 → wp_X10_solvesAll y_0 (fun (s4 : RT) => K (s4.2.2 2) s4)) ∧ (¬ (812 : Int32) ≤ x_1 → vp_in (((812 : Int32) * (y_0.2.2 2)) + x_1) 3248 ∧ vp_in x_1 812 ∧ ∀ s5 : RT, s5 = rI y_0 1 (upd (y_0.1 1) x_1.toNatClampNeg (y_0.1 2 (((812 : Int32) * (y_0.2.2 2)) + x_1).toNatClampNeg)) → ∀ x6 : Int32, x6 = x_1 + (1 : Int32) → lp_X10_undo_22  K n x6 s5))
set_option maxHeartbeats 4000000 in
theorem jt_X10_undo_22 {G : GX} {l : Launch} {d : Nat} {w : HW} {a : Nat} {K : Int32 → RT → Prop} (hd : 9 ≤ d) : ∀ (n : Nat) (x_1 : Int32) (y_0 : RT), lp_X10_undo_22 K n x_1 y_0 → X G l m_X10_undo d 0 0 0 0 22 [(0, .ref a), (1, .int x_1)] [] (put w a 22 (shM a y_0)) (fun r w2 => ∃ (r1 : Int32), ∃ (z0 : RT), r = some (.int r1) ∧ w2 = put w a 22 (shM a z0) ∧ K r1 z0) := by
  intro n
  induction n with
  | zero =>
    intro x_1 y_0 hQ
    exact hQ.elim
  | succ n ih =>
    intro x_1 y_0 hQ
    refine x_iload_n 1 d_X10_undo_22 rfl rfl ?_
    refine x_sipush (v := (812 : Int32)) d_X10_undo_23 (by decide) ?_
    refine x_icmp_ge (tgt := 56) d_X10_undo_26 (by decide) (fun c_26_3 => ?_) (fun c_26_3 => ?_)
    · have hQ := hQ.1 c_26_3
      refine x_aload_n 0 d_X10_undo_56 rfl rfl ?_
      refine x_invV (rest := []) (d' := d - 1) (mc' := 0) (ms' := 0) [] k_X10_solvesAll lk_X10_74 gM_0 rfl rfl rfl (Nat.le_of_ble_eq_true rfl) (by omega) (Nat.le_refl _) (Nat.le_refl _) d_X10_undo_57 ((sp_X10_solvesAll (d := d - 1) (by omega) hQ).mono (fun r w2 hr => ?_))
      obtain ⟨s4, rfl, rfl, hQ⟩ := hr
      refine x_aload_n 0 d_X10_undo_60 rfl rfl ?_
      refine x_getf 2 gf_X10_81 gM_0 rfl d_X10_undo_61 ?_
      exact x_iret (retI d_X10_undo_64 rfl) ⟨_, _, rfl, rfl, hQ⟩
    · have hQ := hQ.2 c_26_3
      refine x_aload_n 0 d_X10_undo_29 rfl rfl ?_
      refine x_getf 0 gf_X10_7 gM_0 rfl d_X10_undo_30 ?_
      refine x_iload_n 1 d_X10_undo_33 rfl rfl ?_
      refine x_aload_n 0 d_X10_undo_34 rfl rfl ?_
      refine x_getf 1 gf_X10_13 gM_0 rfl d_X10_undo_35 ?_
      refine x_sipush (v := (812 : Int32)) d_X10_undo_38 (by decide) ?_
      refine x_aload_n 0 d_X10_undo_41 rfl rfl ?_
      refine x_getf 2 gf_X10_81 gM_0 rfl d_X10_undo_42 ?_
      refine x_imul d_X10_undo_45 ?_
      refine x_iload_n 1 d_X10_undo_46 rfl rfl ?_
      refine x_iadd d_X10_undo_47 ?_
      have hN := hQ.1
      have hQ := hQ.2
      refine x_iald gM_2 hN d_X10_undo_48 ?_
      have hN := hQ.1
      have hQ := hQ.2
      refine x_iast gM_1 hN d_X10_undo_49 ?_
      obtain ⟨s5, e_s5⟩ : ∃ z : RT, z = rI y_0 1 (upd (y_0.1 1) x_1.toNatClampNeg (y_0.1 2 (((812 : Int32) * (y_0.2.2 2)) + x_1).toNatClampNeg)) := ⟨_, rfl⟩
      have hQ := hQ s5 e_s5
      refine X.world (w2 := put w a 22 (shM a s5)) (by rw [e_s5]; exact sM_1) ?_
      obtain ⟨x6, e_x6⟩ : ∃ z : Int32, z = x_1 + (1 : Int32) := ⟨_, rfl⟩
      have hQ := hQ x6 e_x6
      refine x_iinc (v := x6) (lv2 := [(1, .int x6), (0, .ref a)]) 1 d_X10_undo_50 rfl (by rw [e_x6]; rfl) (by decide) rfl ?_
      refine x_goto (tgt := 22) d_X10_undo_53 (by decide) ?_
      refine x_sub [1, 0] (lv2 := [(0, .ref a), (1, .int x6)]) rfl ?_
      exact ih x6 s5 hQ
def wp_X10_undo (s : RT) (K : Int32 → RT → Prop) : Prop := ((¬ (s.2.2 2) = (0 : Int32) → ∀ s2 : RT, s2 = rS s 2 ((s.2.2 2) - (1 : Int32)) → ∃ m : Nat, lp_X10_undo_22  K m (0 : Int32) s2) ∧ ((s.2.2 2) = (0 : Int32) → K (-2000000002 : Int32) s))
set_option maxHeartbeats 4000000 in
theorem sp_X10_undo {G : GX} {l : Launch} {d : Nat} {w : HW} {a : Nat} {s : RT} {K : Int32 → RT → Prop} (hd : 9 ≤ d) (hQ : wp_X10_undo s K) : Sp G l m_X10_undo d 0 0 [.ref a] (put w a 22 (shM a s)) (fun r w2 => ∃ (r1 : Int32), ∃ (z0 : RT), r = some (.int r1) ∧ w2 = put w a 22 (shM a z0) ∧ K r1 z0) := by
  refine Sp.ofX k_X10_undo.1.1 (Nat.le_of_ble_eq_true rfl) ?_
  refine X.lv (lv2 := [(0, .ref a)]) rfl ?_
  refine x_aload_n 0 d_X10_undo_0 rfl rfl ?_
  refine x_getf 2 gf_X10_81 gM_0 rfl d_X10_undo_1 ?_
  refine x_if_ne (tgt := 10) d_X10_undo_4 (by decide) (fun c_4_1 => ?_) (fun c_4_1 => ?_)
  · have hQ := hQ.1 c_4_1
    refine x_aload_n 0 d_X10_undo_10 rfl rfl ?_
    refine x_dup d_X10_undo_11 rfl ?_
    refine x_getf 2 gf_X10_81 gM_0 rfl d_X10_undo_12 ?_
    refine x_iconst (v := (1 : Int32)) d_X10_undo_15 (by decide) ?_
    refine x_isub d_X10_undo_16 ?_
    refine x_putf 2 (.int) pf_X10_81 gM_0 rfl rfl (Nat.le_of_ble_eq_true rfl) d_X10_undo_17 ?_
    obtain ⟨s2, e_s2⟩ : ∃ z : RT, z = rS s 2 ((s.2.2 2) - (1 : Int32)) := ⟨_, rfl⟩
    have hQ := hQ s2 e_s2
    refine X.world (w2 := put w a 22 (shM a s2)) (by rw [e_s2]; exact sM_0_2) ?_
    refine x_iconst (v := (0 : Int32)) d_X10_undo_20 (by decide) ?_
    refine x_istore_n (lv2 := [(1, .int (0 : Int32)), (0, .ref a)]) d_X10_undo_21 rfl (by decide) rfl ?_
    refine x_sub [1, 0] (lv2 := [(0, .ref a), (1, .int (0 : Int32))]) rfl ?_
    obtain ⟨m, hQ⟩ := hQ
    exact jt_X10_undo_22 hd m (0 : Int32) s2 hQ
  · have hQ := hQ.2 c_4_1
    refine x_ldc (v := (-2000000002 : Int32)) kc_X10_85 d_X10_undo_7 ?_
    exact x_iret (retI d_X10_undo_9 rfl) ⟨_, _, rfl, rfl, hQ⟩
def lp_X10_save_14 (a0 : Int32) (K : Int32 → RT → Prop) : Nat → Int32 → RT → Prop
  | 0, _, _ => False
  | n + 1, x_2, y_0 => (((812 : Int32) ≤ x_2 → vp_in a0 2 ∧ ∀ s4 : RT, s4 = rI y_0 4 (upd (y_0.1 4) a0.toNatClampNeg (1 : Int32)) → K (s4.2.2 18) s4) ∧ (¬ (812 : Int32) ≤ x_2 → vp_in x_2 812 ∧ vp_in (((812 : Int32) * a0) + x_2) 1624 ∧ ∀ s5 : RT, s5 = rI y_0 3 (upd (y_0.1 3) (((812 : Int32) * a0) + x_2).toNatClampNeg (y_0.1 1 x_2.toNatClampNeg)) → ∀ x6 : Int32, x6 = x_2 + (1 : Int32) → lp_X10_save_14 a0 K n x6 s5))
set_option maxHeartbeats 4000000 in
theorem jt_X10_save_14 {G : GX} {l : Launch} {d : Nat} {w : HW} {a : Nat} {a0 : Int32} {K : Int32 → RT → Prop} (hd : 1 ≤ d) : ∀ (n : Nat) (x_2 : Int32) (y_0 : RT), lp_X10_save_14 a0 K n x_2 y_0 → X G l m_X10_save d 0 0 0 0 14 [(0, .ref a), (1, .int a0), (2, .int x_2)] [] (put w a 22 (shM a y_0)) (fun r w2 => ∃ (r1 : Int32), ∃ (z0 : RT), r = some (.int r1) ∧ w2 = put w a 22 (shM a z0) ∧ K r1 z0) := by
  intro n
  induction n with
  | zero =>
    intro x_2 y_0 hQ
    exact hQ.elim
  | succ n ih =>
    intro x_2 y_0 hQ
    refine x_iload_n 2 d_X10_save_14 rfl rfl ?_
    refine x_sipush (v := (812 : Int32)) d_X10_save_15 (by decide) ?_
    refine x_icmp_ge (tgt := 45) d_X10_save_18 (by decide) (fun c_18_3 => ?_) (fun c_18_3 => ?_)
    · have hQ := hQ.1 c_18_3
      refine x_aload_n 0 d_X10_save_45 rfl rfl ?_
      refine x_getf 4 gf_X10_19 gM_0 rfl d_X10_save_46 ?_
      refine x_iload_n 1 d_X10_save_49 rfl rfl ?_
      refine x_iconst (v := (1 : Int32)) d_X10_save_50 (by decide) ?_
      have hN := hQ.1
      have hQ := hQ.2
      refine x_iast gM_4 hN d_X10_save_51 ?_
      obtain ⟨s4, e_s4⟩ : ∃ z : RT, z = rI y_0 4 (upd (y_0.1 4) a0.toNatClampNeg (1 : Int32)) := ⟨_, rfl⟩
      have hQ := hQ s4 e_s4
      refine X.world (w2 := put w a 22 (shM a s4)) (by rw [e_s4]; exact sM_4) ?_
      refine x_aload_n 0 d_X10_save_52 rfl rfl ?_
      refine x_getf 18 gf_X10_91 gM_0 rfl d_X10_save_53 ?_
      exact x_iret (retI d_X10_save_56 rfl) ⟨_, _, rfl, rfl, hQ⟩
    · have hQ := hQ.2 c_18_3
      refine x_aload_n 0 d_X10_save_21 rfl rfl ?_
      refine x_getf 3 gf_X10_16 gM_0 rfl d_X10_save_22 ?_
      refine x_sipush (v := (812 : Int32)) d_X10_save_25 (by decide) ?_
      refine x_iload_n 1 d_X10_save_28 rfl rfl ?_
      refine x_imul d_X10_save_29 ?_
      refine x_iload_n 2 d_X10_save_30 rfl rfl ?_
      refine x_iadd d_X10_save_31 ?_
      refine x_aload_n 0 d_X10_save_32 rfl rfl ?_
      refine x_getf 0 gf_X10_7 gM_0 rfl d_X10_save_33 ?_
      refine x_iload_n 2 d_X10_save_36 rfl rfl ?_
      have hN := hQ.1
      have hQ := hQ.2
      refine x_iald gM_1 hN d_X10_save_37 ?_
      have hN := hQ.1
      have hQ := hQ.2
      refine x_iast gM_3 hN d_X10_save_38 ?_
      obtain ⟨s5, e_s5⟩ : ∃ z : RT, z = rI y_0 3 (upd (y_0.1 3) (((812 : Int32) * a0) + x_2).toNatClampNeg (y_0.1 1 x_2.toNatClampNeg)) := ⟨_, rfl⟩
      have hQ := hQ s5 e_s5
      refine X.world (w2 := put w a 22 (shM a s5)) (by rw [e_s5]; exact sM_3) ?_
      obtain ⟨x6, e_x6⟩ : ∃ z : Int32, z = x_2 + (1 : Int32) := ⟨_, rfl⟩
      have hQ := hQ x6 e_x6
      refine x_iinc (v := x6) (lv2 := [(2, .int x6), (0, .ref a), (1, .int a0)]) 2 d_X10_save_39 rfl (by rw [e_x6]; rfl) (by decide) rfl ?_
      refine x_goto (tgt := 14) d_X10_save_42 (by decide) ?_
      refine x_sub [1, 2, 0] (lv2 := [(0, .ref a), (1, .int a0), (2, .int x6)]) rfl ?_
      exact ih x6 s5 hQ
def wp_X10_save (s : RT) (a0 : Int32) (K : Int32 → RT → Prop) : Prop := wp_X10_within a0 (0 : Int32) (1 : Int32) (fun (r1 : Int32) => ((¬ r1 = (0 : Int32) → ∃ m : Nat, lp_X10_save_14 a0 K m (0 : Int32) s) ∧ (r1 = (0 : Int32) → K (-2000000001 : Int32) s)))
set_option maxHeartbeats 4000000 in
theorem sp_X10_save {G : GX} {l : Launch} {d : Nat} {w : HW} {a : Nat} {s : RT} {a0 : Int32} {K : Int32 → RT → Prop} (hd : 1 ≤ d) (hQ : wp_X10_save s a0 K) : Sp G l m_X10_save d 0 0 [.ref a, .int a0] (put w a 22 (shM a s)) (fun r w2 => ∃ (r1 : Int32), ∃ (z0 : RT), r = some (.int r1) ∧ w2 = put w a 22 (shM a z0) ∧ K r1 z0) := by
  refine Sp.ofX k_X10_save.1.1 (Nat.le_of_ble_eq_true rfl) ?_
  refine X.lv (lv2 := [(0, .ref a), (1, .int a0)]) rfl ?_
  refine x_iload_n 1 d_X10_save_0 rfl rfl ?_
  refine x_iconst (v := (0 : Int32)) d_X10_save_1 (by decide) ?_
  refine x_iconst (v := (1 : Int32)) d_X10_save_2 (by decide) ?_
  refine x_invS (rest := []) (d' := d - 1) (mc' := 0) (ms' := 0) [.int a0, .int (0 : Int32), .int (1 : Int32)] k_X10_within lk_X10_86 rfl rfl (Nat.le_of_ble_eq_true rfl) (by omega) (Nat.le_refl _) (Nat.le_refl _) d_X10_save_3 ((sp_X10_within (d := d - 1) (by omega) hQ).mono (fun r w2 hr => ?_))
  obtain ⟨r1, rfl, rfl, hQ⟩ := hr
  refine x_if_ne (tgt := 12) d_X10_save_6 (by decide) (fun c_6_2 => ?_) (fun c_6_2 => ?_)
  · have hQ := hQ.1 c_6_2
    refine x_iconst (v := (0 : Int32)) d_X10_save_12 (by decide) ?_
    refine x_istore_n (lv2 := [(2, .int (0 : Int32)), (0, .ref a), (1, .int a0)]) d_X10_save_13 rfl (by decide) rfl ?_
    refine x_sub [1, 2, 0] (lv2 := [(0, .ref a), (1, .int a0), (2, .int (0 : Int32))]) rfl ?_
    obtain ⟨m, hQ⟩ := hQ
    exact jt_X10_save_14 hd m (0 : Int32) s hQ
  · have hQ := hQ.2 c_6_2
    refine x_ldc (v := (-2000000001 : Int32)) kc_X10_90 d_X10_save_9 ?_
    exact x_iret (retI d_X10_save_11 rfl) ⟨_, _, rfl, rfl, hQ⟩
def lp_X10_restore_30 (a0 : Int32) (K : Int32 → RT → Prop) : Nat → Int32 → RT → Prop
  | 0, _, _ => False
  | n + 1, x_2, y_0 => (((812 : Int32) ≤ x_2 → wp_X10_solvesAll y_0 (fun (s6 : RT) => K (s6.2.2 18) s6)) ∧ (¬ (812 : Int32) ≤ x_2 → vp_in (((812 : Int32) * a0) + x_2) 1624 ∧ vp_in x_2 812 ∧ ∀ s7 : RT, s7 = rI y_0 1 (upd (y_0.1 1) x_2.toNatClampNeg (y_0.1 3 (((812 : Int32) * a0) + x_2).toNatClampNeg)) → ∀ x8 : Int32, x8 = x_2 + (1 : Int32) → lp_X10_restore_30 a0 K n x8 s7))
set_option maxHeartbeats 4000000 in
theorem jt_X10_restore_30 {G : GX} {l : Launch} {d : Nat} {w : HW} {a : Nat} {a0 : Int32} {K : Int32 → RT → Prop} (hd : 9 ≤ d) : ∀ (n : Nat) (x_2 : Int32) (y_0 : RT), lp_X10_restore_30 a0 K n x_2 y_0 → X G l m_X10_restore d 0 0 0 0 30 [(0, .ref a), (1, .int a0), (2, .int x_2)] [] (put w a 22 (shM a y_0)) (fun r w2 => ∃ (r1 : Int32), ∃ (z0 : RT), r = some (.int r1) ∧ w2 = put w a 22 (shM a z0) ∧ K r1 z0) := by
  intro n
  induction n with
  | zero =>
    intro x_2 y_0 hQ
    exact hQ.elim
  | succ n ih =>
    intro x_2 y_0 hQ
    refine x_iload_n 2 d_X10_restore_30 rfl rfl ?_
    refine x_sipush (v := (812 : Int32)) d_X10_restore_31 (by decide) ?_
    refine x_icmp_ge (tgt := 61) d_X10_restore_34 (by decide) (fun c_34_5 => ?_) (fun c_34_5 => ?_)
    · have hQ := hQ.1 c_34_5
      refine x_aload_n 0 d_X10_restore_61 rfl rfl ?_
      refine x_invV (rest := []) (d' := d - 1) (mc' := 0) (ms' := 0) [] k_X10_solvesAll lk_X10_74 gM_0 rfl rfl rfl (Nat.le_of_ble_eq_true rfl) (by omega) (Nat.le_refl _) (Nat.le_refl _) d_X10_restore_62 ((sp_X10_solvesAll (d := d - 1) (by omega) hQ).mono (fun r w2 hr => ?_))
      obtain ⟨s6, rfl, rfl, hQ⟩ := hr
      refine x_aload_n 0 d_X10_restore_65 rfl rfl ?_
      refine x_getf 18 gf_X10_91 gM_0 rfl d_X10_restore_66 ?_
      exact x_iret (retI d_X10_restore_69 rfl) ⟨_, _, rfl, rfl, hQ⟩
    · have hQ := hQ.2 c_34_5
      refine x_aload_n 0 d_X10_restore_37 rfl rfl ?_
      refine x_getf 0 gf_X10_7 gM_0 rfl d_X10_restore_38 ?_
      refine x_iload_n 2 d_X10_restore_41 rfl rfl ?_
      refine x_aload_n 0 d_X10_restore_42 rfl rfl ?_
      refine x_getf 3 gf_X10_16 gM_0 rfl d_X10_restore_43 ?_
      refine x_sipush (v := (812 : Int32)) d_X10_restore_46 (by decide) ?_
      refine x_iload_n 1 d_X10_restore_49 rfl rfl ?_
      refine x_imul d_X10_restore_50 ?_
      refine x_iload_n 2 d_X10_restore_51 rfl rfl ?_
      refine x_iadd d_X10_restore_52 ?_
      have hN := hQ.1
      have hQ := hQ.2
      refine x_iald gM_3 hN d_X10_restore_53 ?_
      have hN := hQ.1
      have hQ := hQ.2
      refine x_iast gM_1 hN d_X10_restore_54 ?_
      obtain ⟨s7, e_s7⟩ : ∃ z : RT, z = rI y_0 1 (upd (y_0.1 1) x_2.toNatClampNeg (y_0.1 3 (((812 : Int32) * a0) + x_2).toNatClampNeg)) := ⟨_, rfl⟩
      have hQ := hQ s7 e_s7
      refine X.world (w2 := put w a 22 (shM a s7)) (by rw [e_s7]; exact sM_1) ?_
      obtain ⟨x8, e_x8⟩ : ∃ z : Int32, z = x_2 + (1 : Int32) := ⟨_, rfl⟩
      have hQ := hQ x8 e_x8
      refine x_iinc (v := x8) (lv2 := [(2, .int x8), (0, .ref a), (1, .int a0)]) 2 d_X10_restore_55 rfl (by rw [e_x8]; rfl) (by decide) rfl ?_
      refine x_goto (tgt := 30) d_X10_restore_58 (by decide) ?_
      refine x_sub [1, 2, 0] (lv2 := [(0, .ref a), (1, .int a0), (2, .int x8)]) rfl ?_
      exact ih x8 s7 hQ
def wp_X10_restore (s : RT) (a0 : Int32) (K : Int32 → RT → Prop) : Prop := wp_X10_within a0 (0 : Int32) (1 : Int32) (fun (r1 : Int32) => ((¬ r1 = (0 : Int32) → vp_in a0 2 ∧ ((¬ (s.1 4 a0.toNatClampNeg) = (0 : Int32) → wp_X10_saves s (fun (s4 : RT) => ∃ m : Nat, lp_X10_restore_30 a0 K m (0 : Int32) s4)) ∧ ((s.1 4 a0.toNatClampNeg) = (0 : Int32) → K (-2000000002 : Int32) s))) ∧ (r1 = (0 : Int32) → K (-2000000001 : Int32) s)))
set_option maxHeartbeats 4000000 in
theorem sp_X10_restore {G : GX} {l : Launch} {d : Nat} {w : HW} {a : Nat} {s : RT} {a0 : Int32} {K : Int32 → RT → Prop} (hd : 9 ≤ d) (hQ : wp_X10_restore s a0 K) : Sp G l m_X10_restore d 0 0 [.ref a, .int a0] (put w a 22 (shM a s)) (fun r w2 => ∃ (r1 : Int32), ∃ (z0 : RT), r = some (.int r1) ∧ w2 = put w a 22 (shM a z0) ∧ K r1 z0) := by
  refine Sp.ofX k_X10_restore.1.1 (Nat.le_of_ble_eq_true rfl) ?_
  refine X.lv (lv2 := [(0, .ref a), (1, .int a0)]) rfl ?_
  refine x_iload_n 1 d_X10_restore_0 rfl rfl ?_
  refine x_iconst (v := (0 : Int32)) d_X10_restore_1 (by decide) ?_
  refine x_iconst (v := (1 : Int32)) d_X10_restore_2 (by decide) ?_
  refine x_invS (rest := []) (d' := d - 1) (mc' := 0) (ms' := 0) [.int a0, .int (0 : Int32), .int (1 : Int32)] k_X10_within lk_X10_86 rfl rfl (Nat.le_of_ble_eq_true rfl) (by omega) (Nat.le_refl _) (Nat.le_refl _) d_X10_restore_3 ((sp_X10_within (d := d - 1) (by omega) hQ).mono (fun r w2 hr => ?_))
  obtain ⟨r1, rfl, rfl, hQ⟩ := hr
  refine x_if_ne (tgt := 12) d_X10_restore_6 (by decide) (fun c_6_2 => ?_) (fun c_6_2 => ?_)
  · have hQ := hQ.1 c_6_2
    refine x_aload_n 0 d_X10_restore_12 rfl rfl ?_
    refine x_getf 4 gf_X10_19 gM_0 rfl d_X10_restore_13 ?_
    refine x_iload_n 1 d_X10_restore_16 rfl rfl ?_
    have hN := hQ.1
    have hQ := hQ.2
    refine x_iald gM_4 hN d_X10_restore_17 ?_
    refine x_if_ne (tgt := 24) d_X10_restore_18 (by decide) (fun c_18_3 => ?_) (fun c_18_3 => ?_)
    · have hQ := hQ.1 c_18_3
      refine x_aload_n 0 d_X10_restore_24 rfl rfl ?_
      refine x_invV (rest := []) (d' := d - 1) (mc' := 0) (ms' := 0) [] k_X10_saves lk_X10_94 gM_0 rfl rfl rfl (Nat.le_of_ble_eq_true rfl) (by omega) (Nat.le_refl _) (Nat.le_refl _) d_X10_restore_25 ((sp_X10_saves (d := d - 1) (by omega) hQ).mono (fun r w2 hr => ?_))
      obtain ⟨s4, rfl, rfl, hQ⟩ := hr
      refine x_iconst (v := (0 : Int32)) d_X10_restore_28 (by decide) ?_
      refine x_istore_n (lv2 := [(2, .int (0 : Int32)), (0, .ref a), (1, .int a0)]) d_X10_restore_29 rfl (by decide) rfl ?_
      refine x_sub [1, 2, 0] (lv2 := [(0, .ref a), (1, .int a0), (2, .int (0 : Int32))]) rfl ?_
      obtain ⟨m, hQ⟩ := hQ
      exact jt_X10_restore_30 hd m (0 : Int32) s4 hQ
    · have hQ := hQ.2 c_18_3
      refine x_ldc (v := (-2000000002 : Int32)) kc_X10_85 d_X10_restore_21 ?_
      exact x_iret (retI d_X10_restore_23 rfl) ⟨_, _, rfl, rfl, hQ⟩
  · have hQ := hQ.2 c_6_2
    refine x_ldc (v := (-2000000001 : Int32)) kc_X10_90 d_X10_restore_9 ?_
    exact x_iret (retI d_X10_restore_11 rfl) ⟨_, _, rfl, rfl, hQ⟩
def wp_X10_type (s : RT) (a0 : Int32) (K : Int32 → RT → Prop) : Prop := wp_X10_within a0 (33 : Int32) (126 : Int32) (fun (r1 : Int32) => ((¬ r1 = (0 : Int32) → ((¬ (s.2.2 6) = (80 : Int32) → vp_in (s.2.2 6) 80 ∧ ∀ s4 : RT, s4 = rI s 5 (upd (s.1 5) (s.2.2 6).toNatClampNeg a0) → ∀ s5 : RT, s5 = rS s4 6 ((s4.2.2 6) + (1 : Int32)) → K (s5.2.2 6) s5) ∧ ((s.2.2 6) = (80 : Int32) → K (-2000000003 : Int32) s))) ∧ (r1 = (0 : Int32) → K (-2000000001 : Int32) s)))
set_option maxHeartbeats 4000000 in
theorem sp_X10_type {G : GX} {l : Launch} {d : Nat} {w : HW} {a : Nat} {s : RT} {a0 : Int32} {K : Int32 → RT → Prop} (hd : 1 ≤ d) (hQ : wp_X10_type s a0 K) : Sp G l m_X10_type d 0 0 [.ref a, .int a0] (put w a 22 (shM a s)) (fun r w2 => ∃ (r1 : Int32), ∃ (z0 : RT), r = some (.int r1) ∧ w2 = put w a 22 (shM a z0) ∧ K r1 z0) := by
  refine Sp.ofX k_X10_type.1.1 (Nat.le_of_ble_eq_true rfl) ?_
  refine X.lv (lv2 := [(0, .ref a), (1, .int a0)]) rfl ?_
  refine x_iload_n 1 d_X10_type_0 rfl rfl ?_
  refine x_bipush (v := (33 : Int32)) d_X10_type_1 (by decide) ?_
  refine x_bipush (v := (126 : Int32)) d_X10_type_3 (by decide) ?_
  refine x_invS (rest := []) (d' := d - 1) (mc' := 0) (ms' := 0) [.int a0, .int (33 : Int32), .int (126 : Int32)] k_X10_within lk_X10_86 rfl rfl (Nat.le_of_ble_eq_true rfl) (by omega) (Nat.le_refl _) (Nat.le_refl _) d_X10_type_5 ((sp_X10_within (d := d - 1) (by omega) hQ).mono (fun r w2 hr => ?_))
  obtain ⟨r1, rfl, rfl, hQ⟩ := hr
  refine x_if_ne (tgt := 14) d_X10_type_8 (by decide) (fun c_8_2 => ?_) (fun c_8_2 => ?_)
  · have hQ := hQ.1 c_8_2
    refine x_aload_n 0 d_X10_type_14 rfl rfl ?_
    refine x_getf 6 gf_X10_97 gM_0 rfl d_X10_type_15 ?_
    refine x_bipush (v := (80 : Int32)) d_X10_type_18 (by decide) ?_
    refine x_icmp_ne (tgt := 26) d_X10_type_20 (by decide) (fun c_20_3 => ?_) (fun c_20_3 => ?_)
    · have hQ := hQ.1 c_20_3
      refine x_aload_n 0 d_X10_type_26 rfl rfl ?_
      refine x_getf 5 gf_X10_22 gM_0 rfl d_X10_type_27 ?_
      refine x_aload_n 0 d_X10_type_30 rfl rfl ?_
      refine x_getf 6 gf_X10_97 gM_0 rfl d_X10_type_31 ?_
      refine x_iload_n 1 d_X10_type_34 rfl rfl ?_
      have hN := hQ.1
      have hQ := hQ.2
      refine x_iast gM_5 hN d_X10_type_35 ?_
      obtain ⟨s4, e_s4⟩ : ∃ z : RT, z = rI s 5 (upd (s.1 5) (s.2.2 6).toNatClampNeg a0) := ⟨_, rfl⟩
      have hQ := hQ s4 e_s4
      refine X.world (w2 := put w a 22 (shM a s4)) (by rw [e_s4]; exact sM_5) ?_
      refine x_aload_n 0 d_X10_type_36 rfl rfl ?_
      refine x_dup d_X10_type_37 rfl ?_
      refine x_getf 6 gf_X10_97 gM_0 rfl d_X10_type_38 ?_
      refine x_iconst (v := (1 : Int32)) d_X10_type_41 (by decide) ?_
      refine x_iadd d_X10_type_42 ?_
      refine x_putf 6 (.int) pf_X10_97 gM_0 rfl rfl (Nat.le_of_ble_eq_true rfl) d_X10_type_43 ?_
      obtain ⟨s5, e_s5⟩ : ∃ z : RT, z = rS s4 6 ((s4.2.2 6) + (1 : Int32)) := ⟨_, rfl⟩
      have hQ := hQ s5 e_s5
      refine X.world (w2 := put w a 22 (shM a s5)) (by rw [e_s5]; exact sM_0_6) ?_
      refine x_aload_n 0 d_X10_type_46 rfl rfl ?_
      refine x_getf 6 gf_X10_97 gM_0 rfl d_X10_type_47 ?_
      exact x_iret (retI d_X10_type_50 rfl) ⟨_, _, rfl, rfl, hQ⟩
    · have hQ := hQ.2 c_20_3
      refine x_ldc (v := (-2000000003 : Int32)) kc_X10_100 d_X10_type_23 ?_
      exact x_iret (retI d_X10_type_25 rfl) ⟨_, _, rfl, rfl, hQ⟩
  · have hQ := hQ.2 c_8_2
    refine x_ldc (v := (-2000000001 : Int32)) kc_X10_90 d_X10_type_11 ?_
    exact x_iret (retI d_X10_type_13 rfl) ⟨_, _, rfl, rfl, hQ⟩
def wp_X10_wipe (s : RT) (K : Int32 → RT → Prop) : Prop := ∀ x1 : Int32, x1 = (s.2.2 6) → ∀ s2 : RT, s2 = rS s 6 (0 : Int32) → K x1 s2
set_option maxHeartbeats 4000000 in
theorem sp_X10_wipe {G : GX} {l : Launch} {d : Nat} {w : HW} {a : Nat} {s : RT} {K : Int32 → RT → Prop} (hd : 0 ≤ d) (hQ : wp_X10_wipe s K) : Sp G l m_X10_wipe d 0 0 [.ref a] (put w a 22 (shM a s)) (fun r w2 => ∃ (r1 : Int32), ∃ (z0 : RT), r = some (.int r1) ∧ w2 = put w a 22 (shM a z0) ∧ K r1 z0) := by
  refine Sp.ofX k_X10_wipe.1.1 (Nat.le_of_ble_eq_true rfl) ?_
  refine X.lv (lv2 := [(0, .ref a)]) rfl ?_
  refine x_aload_n 0 d_X10_wipe_0 rfl rfl ?_
  refine x_getf 6 gf_X10_97 gM_0 rfl d_X10_wipe_1 ?_
  refine x_topi (fun x1 e_x1 => ?_)
  have hQ := hQ x1 e_x1
  refine x_istore_n (lv2 := [(1, .int x1), (0, .ref a)]) d_X10_wipe_4 rfl (by decide) rfl ?_
  refine x_aload_n 1 d_X10_wipe_5 rfl rfl ?_
  refine x_iconst (v := (0 : Int32)) d_X10_wipe_6 (by decide) ?_
  refine x_putf 6 (.int) pf_X10_97 gM_0 rfl rfl (Nat.le_of_ble_eq_true rfl) d_X10_wipe_7 ?_
  obtain ⟨s2, e_s2⟩ : ∃ z : RT, z = rS s 6 (0 : Int32) := ⟨_, rfl⟩
  have hQ := hQ s2 e_s2
  refine X.world (w2 := put w a 22 (shM a s2)) (by rw [e_s2]; exact sM_0_6) ?_
  refine x_iload_n 0 d_X10_wipe_10 rfl rfl ?_
  exact x_iret (retI d_X10_wipe_11 rfl) ⟨_, _, rfl, rfl, hQ⟩
def lp_X10_right_44 (a0 : Int32) (K : Int32 → RT → Prop) : Nat → Int32 → RT → Prop
  | 0, _, _ => False
  | n + 1, x_2, y_0 => (((80 : Int32) ≤ x_2 → ∀ s9 : RT, s9 = rS y_0 6 (0 : Int32) → wp_X10_anew s9 (fun (s10 : RT) => wp_X10_usedBy s10 a0 (fun (r11 : Int32) => K r11 s10))) ∧ (¬ (80 : Int32) ≤ x_2 → (((y_0.2.2 6) ≤ x_2 → vp_in ((((48 : Int32) + ((81 : Int32) * a0)) + (1 : Int32)) + x_2) 812 ∧ ∀ s13 : RT, s13 = rI y_0 1 (upd (y_0.1 1) ((((48 : Int32) + ((81 : Int32) * a0)) + (1 : Int32)) + x_2).toNatClampNeg (0 : Int32)) → ∀ x14 : Int32, x14 = x_2 + (1 : Int32) → lp_X10_right_44 a0 K n x14 s13) ∧ (¬ (y_0.2.2 6) ≤ x_2 → vp_in x_2 80 ∧ vp_in ((((48 : Int32) + ((81 : Int32) * a0)) + (1 : Int32)) + x_2) 812 ∧ ∀ s15 : RT, s15 = rI y_0 1 (upd (y_0.1 1) ((((48 : Int32) + ((81 : Int32) * a0)) + (1 : Int32)) + x_2).toNatClampNeg (y_0.1 5 x_2.toNatClampNeg)) → ∀ x16 : Int32, x16 = x_2 + (1 : Int32) → lp_X10_right_44 a0 K n x16 s15))))
set_option maxHeartbeats 4000000 in
theorem jt_X10_right_44 {G : GX} {l : Launch} {d : Nat} {w : HW} {a : Nat} {a0 : Int32} {K : Int32 → RT → Prop} (hd : 10 ≤ d) : ∀ (n : Nat) (x_2 : Int32) (y_0 : RT), lp_X10_right_44 a0 K n x_2 y_0 → X G l m_X10_right d 0 0 0 0 44 [(0, .ref a), (1, .int a0), (2, .int x_2)] [] (put w a 22 (shM a y_0)) (fun r w2 => ∃ (r1 : Int32), ∃ (z0 : RT), r = some (.int r1) ∧ w2 = put w a 22 (shM a z0) ∧ K r1 z0) := by
  intro n
  induction n with
  | zero =>
    intro x_2 y_0 hQ
    exact hQ.elim
  | succ n ih =>
    intro x_2 y_0 hQ
    refine x_iload_n 2 d_X10_right_44 rfl rfl ?_
    refine x_bipush (v := (80 : Int32)) d_X10_right_45 (by decide) ?_
    refine x_icmp_ge (tgt := 90) d_X10_right_47 (by decide) (fun c_47_8 => ?_) (fun c_47_8 => ?_)
    · have hQ := hQ.1 c_47_8
      refine x_aload_n 0 d_X10_right_90 rfl rfl ?_
      refine x_iconst (v := (0 : Int32)) d_X10_right_91 (by decide) ?_
      refine x_putf 6 (.int) pf_X10_97 gM_0 rfl rfl (Nat.le_of_ble_eq_true rfl) d_X10_right_92 ?_
      obtain ⟨s9, e_s9⟩ : ∃ z : RT, z = rS y_0 6 (0 : Int32) := ⟨_, rfl⟩
      have hQ := hQ s9 e_s9
      refine X.world (w2 := put w a 22 (shM a s9)) (by rw [e_s9]; exact sM_0_6) ?_
      refine x_aload_n 0 d_X10_right_95 rfl rfl ?_
      refine x_invV (rest := []) (d' := d - 1) (mc' := 0) (ms' := 0) [] k_X10_anew lk_X10_139 gM_0 rfl rfl rfl (Nat.le_of_ble_eq_true rfl) (by omega) (Nat.le_refl _) (Nat.le_refl _) d_X10_right_96 ((sp_X10_anew (d := d - 1) (by omega) hQ).mono (fun r w2 hr => ?_))
      obtain ⟨s10, rfl, rfl, hQ⟩ := hr
      refine x_aload_n 0 d_X10_right_99 rfl rfl ?_
      refine x_iload_n 1 d_X10_right_100 rfl rfl ?_
      refine x_invV (rest := []) (d' := d - 1) (mc' := 0) (ms' := 0) [.int a0] k_X10_usedBy lk_X10_133 gM_0 rfl rfl rfl (Nat.le_of_ble_eq_true rfl) (by omega) (Nat.le_refl _) (Nat.le_refl _) d_X10_right_101 ((sp_X10_usedBy (d := d - 1) (by omega) hQ).mono (fun r w2 hr => ?_))
      obtain ⟨r11, rfl, rfl, hQ⟩ := hr
      exact x_iret (retI d_X10_right_104 rfl) ⟨_, _, rfl, rfl, hQ⟩
    · have hQ := hQ.2 c_47_8
      refine x_aload_n 0 d_X10_right_50 rfl rfl ?_
      refine x_getf 0 gf_X10_7 gM_0 rfl d_X10_right_51 ?_
      refine x_bipush (v := (48 : Int32)) d_X10_right_54 (by decide) ?_
      refine x_bipush (v := (81 : Int32)) d_X10_right_56 (by decide) ?_
      refine x_iload_n 1 d_X10_right_58 rfl rfl ?_
      refine x_imul d_X10_right_59 ?_
      refine x_iadd d_X10_right_60 ?_
      refine x_iconst (v := (1 : Int32)) d_X10_right_61 (by decide) ?_
      refine x_iadd d_X10_right_62 ?_
      refine x_iload_n 2 d_X10_right_63 rfl rfl ?_
      refine x_iadd d_X10_right_64 ?_
      refine x_iload_n 2 d_X10_right_65 rfl rfl ?_
      refine x_aload_n 0 d_X10_right_66 rfl rfl ?_
      refine x_getf 6 gf_X10_97 gM_0 rfl d_X10_right_67 ?_
      refine x_icmp_ge (tgt := 82) d_X10_right_70 (by decide) (fun c_70_12 => ?_) (fun c_70_12 => ?_)
      · have hQ := hQ.1 c_70_12
        refine x_iconst (v := (0 : Int32)) d_X10_right_82 (by decide) ?_
        have hN := hQ.1
        have hQ := hQ.2
        refine x_iast gM_1 hN d_X10_right_83 ?_
        obtain ⟨s13, e_s13⟩ : ∃ z : RT, z = rI y_0 1 (upd (y_0.1 1) ((((48 : Int32) + ((81 : Int32) * a0)) + (1 : Int32)) + x_2).toNatClampNeg (0 : Int32)) := ⟨_, rfl⟩
        have hQ := hQ s13 e_s13
        refine X.world (w2 := put w a 22 (shM a s13)) (by rw [e_s13]; exact sM_1) ?_
        obtain ⟨x14, e_x14⟩ : ∃ z : Int32, z = x_2 + (1 : Int32) := ⟨_, rfl⟩
        have hQ := hQ x14 e_x14
        refine x_iinc (v := x14) (lv2 := [(2, .int x14), (0, .ref a), (1, .int a0)]) 2 d_X10_right_84 rfl (by rw [e_x14]; rfl) (by decide) rfl ?_
        refine x_goto (tgt := 44) d_X10_right_87 (by decide) ?_
        refine x_sub [1, 2, 0] (lv2 := [(0, .ref a), (1, .int a0), (2, .int x14)]) rfl ?_
        exact ih x14 s13 hQ
      · have hQ := hQ.2 c_70_12
        refine x_aload_n 0 d_X10_right_73 rfl rfl ?_
        refine x_getf 5 gf_X10_22 gM_0 rfl d_X10_right_74 ?_
        refine x_iload_n 2 d_X10_right_77 rfl rfl ?_
        have hN := hQ.1
        have hQ := hQ.2
        refine x_iald gM_5 hN d_X10_right_78 ?_
        refine x_goto (tgt := 83) d_X10_right_79 (by decide) ?_
        have hN := hQ.1
        have hQ := hQ.2
        refine x_iast gM_1 hN d_X10_right_83 ?_
        obtain ⟨s15, e_s15⟩ : ∃ z : RT, z = rI y_0 1 (upd (y_0.1 1) ((((48 : Int32) + ((81 : Int32) * a0)) + (1 : Int32)) + x_2).toNatClampNeg (y_0.1 5 x_2.toNatClampNeg)) := ⟨_, rfl⟩
        have hQ := hQ s15 e_s15
        refine X.world (w2 := put w a 22 (shM a s15)) (by rw [e_s15]; exact sM_1) ?_
        obtain ⟨x16, e_x16⟩ : ∃ z : Int32, z = x_2 + (1 : Int32) := ⟨_, rfl⟩
        have hQ := hQ x16 e_x16
        refine x_iinc (v := x16) (lv2 := [(2, .int x16), (0, .ref a), (1, .int a0)]) 2 d_X10_right_84 rfl (by rw [e_x16]; rfl) (by decide) rfl ?_
        refine x_goto (tgt := 44) d_X10_right_87 (by decide) ?_
        refine x_sub [1, 2, 0] (lv2 := [(0, .ref a), (1, .int a0), (2, .int x16)]) rfl ?_
        exact ih x16 s15 hQ
def wp_X10_right (s : RT) (a0 : Int32) (K : Int32 → RT → Prop) : Prop := wp_X10_isThree a0 (fun (r1 : Int32) => ((¬ r1 = (0 : Int32) → wp_X10_faultOf s (fun (r3 : Int32) (s4 : RT) => ((r3 = (-2000000004 : Int32) → wp_X10_saves s4 (fun (s6 : RT) => vp_in ((48 : Int32) + ((81 : Int32) * a0)) 812 ∧ ∀ s7 : RT, s7 = rI s6 1 (upd (s6.1 1) ((48 : Int32) + ((81 : Int32) * a0)).toNatClampNeg (s6.2.2 6)) → ∃ m : Nat, lp_X10_right_44 a0 K m (0 : Int32) s7)) ∧ (¬ r3 = (-2000000004 : Int32) → K (-2000000002 : Int32) s4)))) ∧ (r1 = (0 : Int32) → K (-2000000001 : Int32) s)))
set_option maxHeartbeats 4000000 in
theorem sp_X10_right {G : GX} {l : Launch} {d : Nat} {w : HW} {a : Nat} {s : RT} {a0 : Int32} {K : Int32 → RT → Prop} (hd : 10 ≤ d) (hQ : wp_X10_right s a0 K) : Sp G l m_X10_right d 0 0 [.ref a, .int a0] (put w a 22 (shM a s)) (fun r w2 => ∃ (r1 : Int32), ∃ (z0 : RT), r = some (.int r1) ∧ w2 = put w a 22 (shM a z0) ∧ K r1 z0) := by
  refine Sp.ofX k_X10_right.1.1 (Nat.le_of_ble_eq_true rfl) ?_
  refine X.lv (lv2 := [(0, .ref a), (1, .int a0)]) rfl ?_
  refine x_iload_n 1 d_X10_right_0 rfl rfl ?_
  refine x_invS (rest := []) (d' := d - 1) (mc' := 0) (ms' := 0) [.int a0] k_X10_isThree lk_X10_136 rfl rfl (Nat.le_of_ble_eq_true rfl) (by omega) (Nat.le_refl _) (Nat.le_refl _) d_X10_right_1 ((sp_X10_isThree (d := d - 1) (by omega) hQ).mono (fun r w2 hr => ?_))
  obtain ⟨r1, rfl, rfl, hQ⟩ := hr
  refine x_if_ne (tgt := 10) d_X10_right_4 (by decide) (fun c_4_2 => ?_) (fun c_4_2 => ?_)
  · have hQ := hQ.1 c_4_2
    refine x_aload_n 0 d_X10_right_10 rfl rfl ?_
    refine x_invV (rest := []) (d' := d - 1) (mc' := 0) (ms' := 0) [] k_X10_faultOf lk_X10_126 gM_0 rfl rfl rfl (Nat.le_of_ble_eq_true rfl) (by omega) (Nat.le_refl _) (Nat.le_refl _) d_X10_right_11 ((sp_X10_faultOf (d := d - 1) (by omega) hQ).mono (fun r w2 hr => ?_))
    obtain ⟨r3, s4, rfl, rfl, hQ⟩ := hr
    refine x_ldc (v := (-2000000004 : Int32)) kc_X10_125 d_X10_right_14 ?_
    refine x_icmp_eq (tgt := 22) d_X10_right_16 (by decide) (fun c_16_5 => ?_) (fun c_16_5 => ?_)
    · have hQ := hQ.1 c_16_5
      refine x_aload_n 0 d_X10_right_22 rfl rfl ?_
      refine x_invV (rest := []) (d' := d - 1) (mc' := 0) (ms' := 0) [] k_X10_saves lk_X10_94 gM_0 rfl rfl rfl (Nat.le_of_ble_eq_true rfl) (by omega) (Nat.le_refl _) (Nat.le_refl _) d_X10_right_23 ((sp_X10_saves (d := d - 1) (by omega) hQ).mono (fun r w2 hr => ?_))
      obtain ⟨s6, rfl, rfl, hQ⟩ := hr
      refine x_aload_n 0 d_X10_right_26 rfl rfl ?_
      refine x_getf 0 gf_X10_7 gM_0 rfl d_X10_right_27 ?_
      refine x_bipush (v := (48 : Int32)) d_X10_right_30 (by decide) ?_
      refine x_bipush (v := (81 : Int32)) d_X10_right_32 (by decide) ?_
      refine x_iload_n 1 d_X10_right_34 rfl rfl ?_
      refine x_imul d_X10_right_35 ?_
      refine x_iadd d_X10_right_36 ?_
      refine x_aload_n 0 d_X10_right_37 rfl rfl ?_
      refine x_getf 6 gf_X10_97 gM_0 rfl d_X10_right_38 ?_
      have hN := hQ.1
      have hQ := hQ.2
      refine x_iast gM_1 hN d_X10_right_41 ?_
      obtain ⟨s7, e_s7⟩ : ∃ z : RT, z = rI s6 1 (upd (s6.1 1) ((48 : Int32) + ((81 : Int32) * a0)).toNatClampNeg (s6.2.2 6)) := ⟨_, rfl⟩
      have hQ := hQ s7 e_s7
      refine X.world (w2 := put w a 22 (shM a s7)) (by rw [e_s7]; exact sM_1) ?_
      refine x_iconst (v := (0 : Int32)) d_X10_right_42 (by decide) ?_
      refine x_istore_n (lv2 := [(2, .int (0 : Int32)), (0, .ref a), (1, .int a0)]) d_X10_right_43 rfl (by decide) rfl ?_
      refine x_sub [1, 2, 0] (lv2 := [(0, .ref a), (1, .int a0), (2, .int (0 : Int32))]) rfl ?_
      obtain ⟨m, hQ⟩ := hQ
      exact jt_X10_right_44 hd m (0 : Int32) s7 hQ
    · have hQ := hQ.2 c_16_5
      refine x_ldc (v := (-2000000002 : Int32)) kc_X10_85 d_X10_right_19 ?_
      exact x_iret (retI d_X10_right_21 rfl) ⟨_, _, rfl, rfl, hQ⟩
  · have hQ := hQ.2 c_4_2
    refine x_ldc (v := (-2000000001 : Int32)) kc_X10_90 d_X10_right_7 ?_
    exact x_iret (retI d_X10_right_9 rfl) ⟨_, _, rfl, rfl, hQ⟩
def wp_X10_delay (s : RT) (a0 : Int32) (a1 : Int32) (a2 : Int32) (K : Int32 → RT → Prop) : Prop := wp_X10_isThree a0 (fun (r1 : Int32) => ((r1 = (0 : Int32) → K (-2000000001 : Int32) s) ∧ (¬ r1 = (0 : Int32) → wp_X10_within a1 (0 : Int32) (5000 : Int32) (fun (r3 : Int32) => ((r3 = (0 : Int32) → K (-2000000001 : Int32) s) ∧ (¬ r3 = (0 : Int32) → wp_X10_within a2 (-900 : Int32) (900 : Int32) (fun (r5 : Int32) => ((¬ r5 = (0 : Int32) → wp_X10_saves s (fun (s7 : RT) => vp_in ((3 : Int32) + a0) 812 ∧ ∀ x8 : Int32, x8 = (s7.1 1 ((3 : Int32) + a0).toNatClampNeg) → vp_in ((3 : Int32) + a0) 812 ∧ ∀ s9 : RT, s9 = rI s7 1 (upd (s7.1 1) ((3 : Int32) + a0).toNatClampNeg a1) → vp_in ((6 : Int32) + a0) 812 ∧ ∀ s10 : RT, s10 = rI s9 1 (upd (s9.1 1) ((6 : Int32) + a0).toNatClampNeg a2) → wp_X10_anew s10 (fun (s11 : RT) => K x8 s11))) ∧ (r5 = (0 : Int32) → K (-2000000001 : Int32) s)))))))))
set_option maxHeartbeats 4000000 in
theorem sp_X10_delay {G : GX} {l : Launch} {d : Nat} {w : HW} {a : Nat} {s : RT} {a0 : Int32} {a1 : Int32} {a2 : Int32} {K : Int32 → RT → Prop} (hd : 10 ≤ d) (hQ : wp_X10_delay s a0 a1 a2 K) : Sp G l m_X10_delay d 0 0 [.ref a, .int a0, .int a1, .int a2] (put w a 22 (shM a s)) (fun r w2 => ∃ (r1 : Int32), ∃ (z0 : RT), r = some (.int r1) ∧ w2 = put w a 22 (shM a z0) ∧ K r1 z0) := by
  refine Sp.ofX k_X10_delay.1.1 (Nat.le_of_ble_eq_true rfl) ?_
  refine X.lv (lv2 := [(0, .ref a), (1, .int a0), (2, .int a1), (3, .int a2)]) rfl ?_
  refine x_iload_n 1 d_X10_delay_0 rfl rfl ?_
  refine x_invS (rest := []) (d' := d - 1) (mc' := 0) (ms' := 0) [.int a0] k_X10_isThree lk_X10_136 rfl rfl (Nat.le_of_ble_eq_true rfl) (by omega) (Nat.le_refl _) (Nat.le_refl _) d_X10_delay_1 ((sp_X10_isThree (d := d - 1) (by omega) hQ).mono (fun r w2 hr => ?_))
  obtain ⟨r1, rfl, rfl, hQ⟩ := hr
  refine x_if_eq (tgt := 31) d_X10_delay_4 (by decide) (fun c_4_2 => ?_) (fun c_4_2 => ?_)
  · have hQ := hQ.1 c_4_2
    refine x_ldc (v := (-2000000001 : Int32)) kc_X10_90 d_X10_delay_31 ?_
    exact x_iret (retI d_X10_delay_33 rfl) ⟨_, _, rfl, rfl, hQ⟩
  · have hQ := hQ.2 c_4_2
    refine x_iload_n 2 d_X10_delay_7 rfl rfl ?_
    refine x_iconst (v := (0 : Int32)) d_X10_delay_8 (by decide) ?_
    refine x_sipush (v := (5000 : Int32)) d_X10_delay_9 (by decide) ?_
    refine x_invS (rest := []) (d' := d - 1) (mc' := 0) (ms' := 0) [.int a1, .int (0 : Int32), .int (5000 : Int32)] k_X10_within lk_X10_86 rfl rfl (Nat.le_of_ble_eq_true rfl) (by omega) (Nat.le_refl _) (Nat.le_refl _) d_X10_delay_12 ((sp_X10_within (d := d - 1) (by omega) hQ).mono (fun r w2 hr => ?_))
    obtain ⟨r3, rfl, rfl, hQ⟩ := hr
    refine x_if_eq (tgt := 31) d_X10_delay_15 (by decide) (fun c_15_4 => ?_) (fun c_15_4 => ?_)
    · have hQ := hQ.1 c_15_4
      refine x_ldc (v := (-2000000001 : Int32)) kc_X10_90 d_X10_delay_31 ?_
      exact x_iret (retI d_X10_delay_33 rfl) ⟨_, _, rfl, rfl, hQ⟩
    · have hQ := hQ.2 c_15_4
      refine x_iload_n 3 d_X10_delay_18 rfl rfl ?_
      refine x_sipush (v := (-900 : Int32)) d_X10_delay_19 (by decide) ?_
      refine x_sipush (v := (900 : Int32)) d_X10_delay_22 (by decide) ?_
      refine x_invS (rest := []) (d' := d - 1) (mc' := 0) (ms' := 0) [.int a2, .int (-900 : Int32), .int (900 : Int32)] k_X10_within lk_X10_86 rfl rfl (Nat.le_of_ble_eq_true rfl) (by omega) (Nat.le_refl _) (Nat.le_refl _) d_X10_delay_25 ((sp_X10_within (d := d - 1) (by omega) hQ).mono (fun r w2 hr => ?_))
      obtain ⟨r5, rfl, rfl, hQ⟩ := hr
      refine x_if_ne (tgt := 34) d_X10_delay_28 (by decide) (fun c_28_6 => ?_) (fun c_28_6 => ?_)
      · have hQ := hQ.1 c_28_6
        refine x_aload_n 0 d_X10_delay_34 rfl rfl ?_
        refine x_invV (rest := []) (d' := d - 1) (mc' := 0) (ms' := 0) [] k_X10_saves lk_X10_94 gM_0 rfl rfl rfl (Nat.le_of_ble_eq_true rfl) (by omega) (Nat.le_refl _) (Nat.le_refl _) d_X10_delay_35 ((sp_X10_saves (d := d - 1) (by omega) hQ).mono (fun r w2 hr => ?_))
        obtain ⟨s7, rfl, rfl, hQ⟩ := hr
        refine x_aload_n 0 d_X10_delay_38 rfl rfl ?_
        refine x_getf 0 gf_X10_7 gM_0 rfl d_X10_delay_39 ?_
        refine x_iconst (v := (3 : Int32)) d_X10_delay_42 (by decide) ?_
        refine x_iload_n 1 d_X10_delay_43 rfl rfl ?_
        refine x_iadd d_X10_delay_44 ?_
        have hN := hQ.1
        have hQ := hQ.2
        refine x_iald gM_1 hN d_X10_delay_45 ?_
        refine x_topi (fun x8 e_x8 => ?_)
        have hQ := hQ x8 e_x8
        refine x_istore (lv2 := [(4, .int x8), (0, .ref a), (1, .int a0), (2, .int a1), (3, .int a2)]) d_X10_delay_46 (by decide) rfl ?_
        refine x_aload_n 1 d_X10_delay_48 rfl rfl ?_
        refine x_getf 0 gf_X10_7 gM_0 rfl d_X10_delay_49 ?_
        refine x_iconst (v := (3 : Int32)) d_X10_delay_52 (by decide) ?_
        refine x_iload_n 2 d_X10_delay_53 rfl rfl ?_
        refine x_iadd d_X10_delay_54 ?_
        refine x_iload_n 3 d_X10_delay_55 rfl rfl ?_
        have hN := hQ.1
        have hQ := hQ.2
        refine x_iast gM_1 hN d_X10_delay_56 ?_
        obtain ⟨s9, e_s9⟩ : ∃ z : RT, z = rI s7 1 (upd (s7.1 1) ((3 : Int32) + a0).toNatClampNeg a1) := ⟨_, rfl⟩
        have hQ := hQ s9 e_s9
        refine X.world (w2 := put w a 22 (shM a s9)) (by rw [e_s9]; exact sM_1) ?_
        refine x_aload_n 1 d_X10_delay_57 rfl rfl ?_
        refine x_getf 0 gf_X10_7 gM_0 rfl d_X10_delay_58 ?_
        refine x_bipush (v := (6 : Int32)) d_X10_delay_61 (by decide) ?_
        refine x_iload_n 2 d_X10_delay_63 rfl rfl ?_
        refine x_iadd d_X10_delay_64 ?_
        refine x_iload_n 4 d_X10_delay_65 rfl rfl ?_
        have hN := hQ.1
        have hQ := hQ.2
        refine x_iast gM_1 hN d_X10_delay_66 ?_
        obtain ⟨s10, e_s10⟩ : ∃ z : RT, z = rI s9 1 (upd (s9.1 1) ((6 : Int32) + a0).toNatClampNeg a2) := ⟨_, rfl⟩
        have hQ := hQ s10 e_s10
        refine X.world (w2 := put w a 22 (shM a s10)) (by rw [e_s10]; exact sM_1) ?_
        refine x_aload_n 1 d_X10_delay_67 rfl rfl ?_
        refine x_invV (rest := []) (d' := d - 1) (mc' := 0) (ms' := 0) [] k_X10_anew lk_X10_139 gM_0 rfl rfl rfl (Nat.le_of_ble_eq_true rfl) (by omega) (Nat.le_refl _) (Nat.le_refl _) d_X10_delay_68 ((sp_X10_anew (d := d - 1) (by omega) hQ).mono (fun r w2 hr => ?_))
        obtain ⟨s11, rfl, rfl, hQ⟩ := hr
        refine x_iload 0 d_X10_delay_71 rfl ?_
        exact x_iret (retI d_X10_delay_73 rfl) ⟨_, _, rfl, rfl, hQ⟩
      · have hQ := hQ.2 c_28_6
        refine x_ldc (v := (-2000000001 : Int32)) kc_X10_90 d_X10_delay_31 ?_
        exact x_iret (retI d_X10_delay_33 rfl) ⟨_, _, rfl, rfl, hQ⟩
def lp_X10_point_131 (a0 : Int32) (a1 : Int32) (a2 : Int32) (K : Int32 → RT → Prop) : Nat → Int32 → Int32 → Int32 → RT → Prop
  | 0, _, _, _, _ => False
  | n + 1, x_4, x_5, x_7, y_0 => ((x_7 ≤ x_5 → vp_in ((((9 : Int32) + ((13 : Int32) * a0)) + (1 : Int32)) + x_5) 812 ∧ ∀ s13 : RT, s13 = rI y_0 1 (upd (y_0.1 1) ((((9 : Int32) + ((13 : Int32) * a0)) + (1 : Int32)) + x_5).toNatClampNeg a1) → vp_in ((((9 : Int32) + ((13 : Int32) * a0)) + (7 : Int32)) + x_5) 812 ∧ ∀ s14 : RT, s14 = rI s13 1 (upd (s13.1 1) ((((9 : Int32) + ((13 : Int32) * a0)) + (7 : Int32)) + x_5).toNatClampNeg a2) → vp_in ((9 : Int32) + ((13 : Int32) * a0)) 812 ∧ ∀ s15 : RT, s15 = rI s14 1 (upd (s14.1 1) ((9 : Int32) + ((13 : Int32) * a0)).toNatClampNeg (x_4 + (1 : Int32))) → wp_X10_anew s15 (fun (s16 : RT) => K (x_4 + (1 : Int32)) s16)) ∧ (¬ x_7 ≤ x_5 → wp_X10_pointTime y_0 a0 (x_7 - (1 : Int32)) (fun (r17 : Int32) => vp_in ((((9 : Int32) + ((13 : Int32) * a0)) + (1 : Int32)) + x_7) 812 ∧ ∀ s18 : RT, s18 = rI y_0 1 (upd (y_0.1 1) ((((9 : Int32) + ((13 : Int32) * a0)) + (1 : Int32)) + x_7).toNatClampNeg r17) → wp_X10_pointValue s18 a0 (x_7 - (1 : Int32)) (fun (r19 : Int32) => vp_in ((((9 : Int32) + ((13 : Int32) * a0)) + (7 : Int32)) + x_7) 812 ∧ ∀ s20 : RT, s20 = rI s18 1 (upd (s18.1 1) ((((9 : Int32) + ((13 : Int32) * a0)) + (7 : Int32)) + x_7).toNatClampNeg r19) → ∀ x21 : Int32, x21 = x_7 + (-1 : Int32) → lp_X10_point_131 a0 a1 a2 K n x_4 x_5 x21 s20))))
set_option maxHeartbeats 4000000 in
theorem jt_X10_point_131 {G : GX} {l : Launch} {d : Nat} {w : HW} {a : Nat} {a0 : Int32} {a1 : Int32} {a2 : Int32} {K : Int32 → RT → Prop} (hd : 10 ≤ d) : ∀ (n : Nat) (x_4 : Int32) (x_5 : Int32) (x_7 : Int32) (y_0 : RT), lp_X10_point_131 a0 a1 a2 K n x_4 x_5 x_7 y_0 → X G l m_X10_point d 0 0 0 0 131 [(0, .ref a), (1, .int a0), (2, .int a1), (3, .int a2), (4, .int x_4), (5, .int x_5), (7, .int x_7)] [] (put w a 22 (shM a y_0)) (fun r w2 => ∃ (r1 : Int32), ∃ (z0 : RT), r = some (.int r1) ∧ w2 = put w a 22 (shM a z0) ∧ K r1 z0) := by
  intro n
  induction n with
  | zero =>
    intro x_4 x_5 x_7 y_0 hQ
    exact hQ.elim
  | succ n ih =>
    intro x_4 x_5 x_7 y_0 hQ
    refine x_iload 6 d_X10_point_131 rfl ?_
    refine x_iload 5 d_X10_point_133 rfl ?_
    refine x_icmp_le (tgt := 197) d_X10_point_135 (by decide) (fun c_135_12 => ?_) (fun c_135_12 => ?_)
    · have hQ := hQ.1 c_135_12
      refine x_aload_n 0 d_X10_point_197 rfl rfl ?_
      refine x_getf 0 gf_X10_7 gM_0 rfl d_X10_point_198 ?_
      refine x_bipush (v := (9 : Int32)) d_X10_point_201 (by decide) ?_
      refine x_bipush (v := (13 : Int32)) d_X10_point_203 (by decide) ?_
      refine x_iload_n 1 d_X10_point_205 rfl rfl ?_
      refine x_imul d_X10_point_206 ?_
      refine x_iadd d_X10_point_207 ?_
      refine x_iconst (v := (1 : Int32)) d_X10_point_208 (by decide) ?_
      refine x_iadd d_X10_point_209 ?_
      refine x_iload 5 d_X10_point_210 rfl ?_
      refine x_iadd d_X10_point_212 ?_
      refine x_iload_n 2 d_X10_point_213 rfl rfl ?_
      have hN := hQ.1
      have hQ := hQ.2
      refine x_iast gM_1 hN d_X10_point_214 ?_
      obtain ⟨s13, e_s13⟩ : ∃ z : RT, z = rI y_0 1 (upd (y_0.1 1) ((((9 : Int32) + ((13 : Int32) * a0)) + (1 : Int32)) + x_5).toNatClampNeg a1) := ⟨_, rfl⟩
      have hQ := hQ s13 e_s13
      refine X.world (w2 := put w a 22 (shM a s13)) (by rw [e_s13]; exact sM_1) ?_
      refine x_aload_n 0 d_X10_point_215 rfl rfl ?_
      refine x_getf 0 gf_X10_7 gM_0 rfl d_X10_point_216 ?_
      refine x_bipush (v := (9 : Int32)) d_X10_point_219 (by decide) ?_
      refine x_bipush (v := (13 : Int32)) d_X10_point_221 (by decide) ?_
      refine x_iload_n 1 d_X10_point_223 rfl rfl ?_
      refine x_imul d_X10_point_224 ?_
      refine x_iadd d_X10_point_225 ?_
      refine x_bipush (v := (7 : Int32)) d_X10_point_226 (by decide) ?_
      refine x_iadd d_X10_point_228 ?_
      refine x_iload 5 d_X10_point_229 rfl ?_
      refine x_iadd d_X10_point_231 ?_
      refine x_iload_n 3 d_X10_point_232 rfl rfl ?_
      have hN := hQ.1
      have hQ := hQ.2
      refine x_iast gM_1 hN d_X10_point_233 ?_
      obtain ⟨s14, e_s14⟩ : ∃ z : RT, z = rI s13 1 (upd (s13.1 1) ((((9 : Int32) + ((13 : Int32) * a0)) + (7 : Int32)) + x_5).toNatClampNeg a2) := ⟨_, rfl⟩
      have hQ := hQ s14 e_s14
      refine X.world (w2 := put w a 22 (shM a s14)) (by rw [e_s14]; exact sM_1) ?_
      refine x_aload_n 0 d_X10_point_234 rfl rfl ?_
      refine x_getf 0 gf_X10_7 gM_0 rfl d_X10_point_235 ?_
      refine x_bipush (v := (9 : Int32)) d_X10_point_238 (by decide) ?_
      refine x_bipush (v := (13 : Int32)) d_X10_point_240 (by decide) ?_
      refine x_iload_n 1 d_X10_point_242 rfl rfl ?_
      refine x_imul d_X10_point_243 ?_
      refine x_iadd d_X10_point_244 ?_
      refine x_iload 4 d_X10_point_245 rfl ?_
      refine x_iconst (v := (1 : Int32)) d_X10_point_247 (by decide) ?_
      refine x_iadd d_X10_point_248 ?_
      have hN := hQ.1
      have hQ := hQ.2
      refine x_iast gM_1 hN d_X10_point_249 ?_
      obtain ⟨s15, e_s15⟩ : ∃ z : RT, z = rI s14 1 (upd (s14.1 1) ((9 : Int32) + ((13 : Int32) * a0)).toNatClampNeg (x_4 + (1 : Int32))) := ⟨_, rfl⟩
      have hQ := hQ s15 e_s15
      refine X.world (w2 := put w a 22 (shM a s15)) (by rw [e_s15]; exact sM_1) ?_
      refine x_aload_n 0 d_X10_point_250 rfl rfl ?_
      refine x_invV (rest := []) (d' := d - 1) (mc' := 0) (ms' := 0) [] k_X10_anew lk_X10_139 gM_0 rfl rfl rfl (Nat.le_of_ble_eq_true rfl) (by omega) (Nat.le_refl _) (Nat.le_refl _) d_X10_point_251 ((sp_X10_anew (d := d - 1) (by omega) hQ).mono (fun r w2 hr => ?_))
      obtain ⟨s16, rfl, rfl, hQ⟩ := hr
      refine x_iload 4 d_X10_point_254 rfl ?_
      refine x_iconst (v := (1 : Int32)) d_X10_point_256 (by decide) ?_
      refine x_iadd d_X10_point_257 ?_
      exact x_iret (retI d_X10_point_258 rfl) ⟨_, _, rfl, rfl, hQ⟩
    · have hQ := hQ.2 c_135_12
      refine x_aload_n 0 d_X10_point_138 rfl rfl ?_
      refine x_getf 0 gf_X10_7 gM_0 rfl d_X10_point_139 ?_
      refine x_bipush (v := (9 : Int32)) d_X10_point_142 (by decide) ?_
      refine x_bipush (v := (13 : Int32)) d_X10_point_144 (by decide) ?_
      refine x_iload_n 1 d_X10_point_146 rfl rfl ?_
      refine x_imul d_X10_point_147 ?_
      refine x_iadd d_X10_point_148 ?_
      refine x_iconst (v := (1 : Int32)) d_X10_point_149 (by decide) ?_
      refine x_iadd d_X10_point_150 ?_
      refine x_iload 6 d_X10_point_151 rfl ?_
      refine x_iadd d_X10_point_153 ?_
      refine x_aload_n 0 d_X10_point_154 rfl rfl ?_
      refine x_iload_n 1 d_X10_point_155 rfl rfl ?_
      refine x_iload 6 d_X10_point_156 rfl ?_
      refine x_iconst (v := (1 : Int32)) d_X10_point_158 (by decide) ?_
      refine x_isub d_X10_point_159 ?_
      refine x_invV (rest := [.int ((((9 : Int32) + ((13 : Int32) * a0)) + (1 : Int32)) + x_7), .ref (a + 1)]) (d' := d - 1) (mc' := 0) (ms' := 0) [.int a0, .int (x_7 - (1 : Int32))] k_X10_pointTime lk_X10_147 gM_0 rfl rfl rfl (Nat.le_of_ble_eq_true rfl) (by omega) (Nat.le_refl _) (Nat.le_refl _) d_X10_point_160 ((sp_X10_pointTime (d := d - 1) (by omega) hQ).mono (fun r w2 hr => ?_))
      obtain ⟨r17, rfl, rfl, hQ⟩ := hr
      have hN := hQ.1
      have hQ := hQ.2
      refine x_iast gM_1 hN d_X10_point_163 ?_
      obtain ⟨s18, e_s18⟩ : ∃ z : RT, z = rI y_0 1 (upd (y_0.1 1) ((((9 : Int32) + ((13 : Int32) * a0)) + (1 : Int32)) + x_7).toNatClampNeg r17) := ⟨_, rfl⟩
      have hQ := hQ s18 e_s18
      refine X.world (w2 := put w a 22 (shM a s18)) (by rw [e_s18]; exact sM_1) ?_
      refine x_aload_n 0 d_X10_point_164 rfl rfl ?_
      refine x_getf 0 gf_X10_7 gM_0 rfl d_X10_point_165 ?_
      refine x_bipush (v := (9 : Int32)) d_X10_point_168 (by decide) ?_
      refine x_bipush (v := (13 : Int32)) d_X10_point_170 (by decide) ?_
      refine x_iload_n 1 d_X10_point_172 rfl rfl ?_
      refine x_imul d_X10_point_173 ?_
      refine x_iadd d_X10_point_174 ?_
      refine x_bipush (v := (7 : Int32)) d_X10_point_175 (by decide) ?_
      refine x_iadd d_X10_point_177 ?_
      refine x_iload 6 d_X10_point_178 rfl ?_
      refine x_iadd d_X10_point_180 ?_
      refine x_aload_n 0 d_X10_point_181 rfl rfl ?_
      refine x_iload_n 1 d_X10_point_182 rfl rfl ?_
      refine x_iload 6 d_X10_point_183 rfl ?_
      refine x_iconst (v := (1 : Int32)) d_X10_point_185 (by decide) ?_
      refine x_isub d_X10_point_186 ?_
      refine x_invV (rest := [.int ((((9 : Int32) + ((13 : Int32) * a0)) + (7 : Int32)) + x_7), .ref (a + 1)]) (d' := d - 1) (mc' := 0) (ms' := 0) [.int a0, .int (x_7 - (1 : Int32))] k_X10_pointValue lk_X10_150 gM_0 rfl rfl rfl (Nat.le_of_ble_eq_true rfl) (by omega) (Nat.le_refl _) (Nat.le_refl _) d_X10_point_187 ((sp_X10_pointValue (d := d - 1) (by omega) hQ).mono (fun r w2 hr => ?_))
      obtain ⟨r19, rfl, rfl, hQ⟩ := hr
      have hN := hQ.1
      have hQ := hQ.2
      refine x_iast gM_1 hN d_X10_point_190 ?_
      obtain ⟨s20, e_s20⟩ : ∃ z : RT, z = rI s18 1 (upd (s18.1 1) ((((9 : Int32) + ((13 : Int32) * a0)) + (7 : Int32)) + x_7).toNatClampNeg r19) := ⟨_, rfl⟩
      have hQ := hQ s20 e_s20
      refine X.world (w2 := put w a 22 (shM a s20)) (by rw [e_s20]; exact sM_1) ?_
      obtain ⟨x21, e_x21⟩ : ∃ z : Int32, z = x_7 + (-1 : Int32) := ⟨_, rfl⟩
      have hQ := hQ x21 e_x21
      refine x_iinc (v := x21) (lv2 := [(7, .int x21), (0, .ref a), (1, .int a0), (2, .int a1), (3, .int a2), (4, .int x_4), (5, .int x_5)]) 6 d_X10_point_191 rfl (by rw [e_x21]; rfl) (by decide) rfl ?_
      refine x_goto (tgt := 131) d_X10_point_194 (by decide) ?_
      refine x_sub [1, 2, 3, 4, 5, 6, 0] (lv2 := [(0, .ref a), (1, .int a0), (2, .int a1), (3, .int a2), (4, .int x_4), (5, .int x_5), (7, .int x21)]) rfl ?_
      exact ih x_4 x_5 x21 s20 hQ
def jp_X10_point_92 (a0 : Int32) (a1 : Int32) (a2 : Int32) (K : Int32 → RT → Prop) (k_48 : Int32 → Int32 → Int32 → Int32 → RT → Prop) (x_4 : Int32) (x_5 : Int32) (x_7 : Int32) (y_0 : RT) : Prop := ∀ x26 : Int32, x26 = x_7 + (1 : Int32) → k_48 x_4 x_5 (1 : Int32) x26 y_0
set_option maxHeartbeats 4000000 in
theorem jt_X10_point_92 {G : GX} {l : Launch} {d : Nat} {w : HW} {a : Nat} {a0 : Int32} {a1 : Int32} {a2 : Int32} {K : Int32 → RT → Prop} {k_48 : Int32 → Int32 → Int32 → Int32 → RT → Prop} (hd : 10 ≤ d) (hk_48 : ∀ (x_4 : Int32) (x_5 : Int32) (x_6 : Int32) (x_7 : Int32) (y_0 : RT), k_48 x_4 x_5 x_6 x_7 y_0 → X G l m_X10_point d 0 0 0 0 48 [(0, .ref a), (1, .int a0), (2, .int a1), (3, .int a2), (4, .int x_4), (5, .int x_5), (6, .int x_6), (7, .int x_7)] [] (put w a 22 (shM a y_0)) (fun r w2 => ∃ (r1 : Int32), ∃ (z0 : RT), r = some (.int r1) ∧ w2 = put w a 22 (shM a z0) ∧ K r1 z0)) (x_4 : Int32) (x_5 : Int32) (x_7 : Int32) (y_0 : RT) (hQ : jp_X10_point_92 a0 a1 a2 K k_48 x_4 x_5 x_7 y_0) : X G l m_X10_point d 0 0 0 0 92 [(0, .ref a), (1, .int a0), (2, .int a1), (3, .int a2), (4, .int x_4), (5, .int x_5), (7, .int x_7)] [] (put w a 22 (shM a y_0)) (fun r w2 => ∃ (r1 : Int32), ∃ (z0 : RT), r = some (.int r1) ∧ w2 = put w a 22 (shM a z0) ∧ K r1 z0) := by
  refine x_iconst (v := (1 : Int32)) d_X10_point_92 (by decide) ?_
  refine x_goto (tgt := 97) d_X10_point_93 (by decide) ?_
  refine x_istore (lv2 := [(6, .int (1 : Int32)), (0, .ref a), (1, .int a0), (2, .int a1), (3, .int a2), (4, .int x_4), (5, .int x_5), (7, .int x_7)]) d_X10_point_97 (by decide) rfl ?_
  obtain ⟨x26, e_x26⟩ : ∃ z : Int32, z = x_7 + (1 : Int32) := ⟨_, rfl⟩
  have hQ := hQ x26 e_x26
  refine x_iinc (v := x26) (lv2 := [(7, .int x26), (6, .int (1 : Int32)), (0, .ref a), (1, .int a0), (2, .int a1), (3, .int a2), (4, .int x_4), (5, .int x_5)]) 7 d_X10_point_99 rfl (by rw [e_x26]; rfl) (by decide) rfl ?_
  refine x_goto (tgt := 48) d_X10_point_102 (by decide) ?_
  refine x_sub [2, 3, 4, 5, 6, 7, 1, 0] (lv2 := [(0, .ref a), (1, .int a0), (2, .int a1), (3, .int a2), (4, .int x_4), (5, .int x_5), (6, .int (1 : Int32)), (7, .int x26)]) rfl ?_
  exact hk_48 x_4 x_5 (1 : Int32) x26 y_0 hQ
def jp_X10_point_73 (a0 : Int32) (a1 : Int32) (a2 : Int32) (K : Int32 → RT → Prop) (k_48 : Int32 → Int32 → Int32 → Int32 → RT → Prop) (x_4 : Int32) (x_6 : Int32) (x_7 : Int32) (t_0 : Int32) (t_1 : Int32) (y_0 : RT) : Prop := ∀ x24 : Int32, x24 = t_1 + t_0 → ((¬ x_6 = (0 : Int32) → jp_X10_point_92 a0 a1 a2 K k_48 x_4 x24 x_7 y_0) ∧ (x_6 = (0 : Int32) → wp_X10_pointTime y_0 a0 x_7 (fun (r27 : Int32) => ((¬ r27 = a1 → ∀ x29 : Int32, x29 = x_7 + (1 : Int32) → k_48 x_4 x24 (0 : Int32) x29 y_0) ∧ (r27 = a1 → jp_X10_point_92 a0 a1 a2 K k_48 x_4 x24 x_7 y_0)))))
set_option maxHeartbeats 4000000 in
theorem jt_X10_point_73 {G : GX} {l : Launch} {d : Nat} {w : HW} {a : Nat} {a0 : Int32} {a1 : Int32} {a2 : Int32} {K : Int32 → RT → Prop} {k_48 : Int32 → Int32 → Int32 → Int32 → RT → Prop} (hd : 10 ≤ d) (hk_48 : ∀ (x_4 : Int32) (x_5 : Int32) (x_6 : Int32) (x_7 : Int32) (y_0 : RT), k_48 x_4 x_5 x_6 x_7 y_0 → X G l m_X10_point d 0 0 0 0 48 [(0, .ref a), (1, .int a0), (2, .int a1), (3, .int a2), (4, .int x_4), (5, .int x_5), (6, .int x_6), (7, .int x_7)] [] (put w a 22 (shM a y_0)) (fun r w2 => ∃ (r1 : Int32), ∃ (z0 : RT), r = some (.int r1) ∧ w2 = put w a 22 (shM a z0) ∧ K r1 z0)) (x_4 : Int32) (x_6 : Int32) (x_7 : Int32) (t_0 : Int32) (t_1 : Int32) (y_0 : RT) (hQ : jp_X10_point_73 a0 a1 a2 K k_48 x_4 x_6 x_7 t_0 t_1 y_0) : X G l m_X10_point d 0 0 0 0 73 [(0, .ref a), (1, .int a0), (2, .int a1), (3, .int a2), (4, .int x_4), (6, .int x_6), (7, .int x_7)] [.int t_0, .int t_1] (put w a 22 (shM a y_0)) (fun r w2 => ∃ (r1 : Int32), ∃ (z0 : RT), r = some (.int r1) ∧ w2 = put w a 22 (shM a z0) ∧ K r1 z0) := by
  refine x_iadd d_X10_point_73 ?_
  refine x_topi (fun x24 e_x24 => ?_)
  have hQ := hQ x24 e_x24
  refine x_istore (lv2 := [(5, .int x24), (0, .ref a), (1, .int a0), (2, .int a1), (3, .int a2), (4, .int x_4), (6, .int x_6), (7, .int x_7)]) d_X10_point_74 (by decide) rfl ?_
  refine x_iload 6 d_X10_point_76 rfl ?_
  refine x_if_ne (tgt := 92) d_X10_point_78 (by decide) (fun c_78_25 => ?_) (fun c_78_25 => ?_)
  · have hQ := hQ.1 c_78_25
    refine x_sub [1, 2, 3, 4, 5, 0, 7] (lv2 := [(0, .ref a), (1, .int a0), (2, .int a1), (3, .int a2), (4, .int x_4), (5, .int x24), (7, .int x_7)]) rfl ?_
    exact jt_X10_point_92 hd hk_48 x_4 x24 x_7 y_0 hQ
  · have hQ := hQ.2 c_78_25
    refine x_aload_n 1 d_X10_point_81 rfl rfl ?_
    refine x_iload_n 2 d_X10_point_82 rfl rfl ?_
    refine x_iload 7 d_X10_point_83 rfl ?_
    refine x_invV (rest := []) (d' := d - 1) (mc' := 0) (ms' := 0) [.int a0, .int x_7] k_X10_pointTime lk_X10_147 gM_0 rfl rfl rfl (Nat.le_of_ble_eq_true rfl) (by omega) (Nat.le_refl _) (Nat.le_refl _) d_X10_point_85 ((sp_X10_pointTime (d := d - 1) (by omega) hQ).mono (fun r w2 hr => ?_))
    obtain ⟨r27, rfl, rfl, hQ⟩ := hr
    refine x_iload_n 3 d_X10_point_88 rfl rfl ?_
    refine x_icmp_ne (tgt := 96) d_X10_point_89 (by decide) (fun c_89_28 => ?_) (fun c_89_28 => ?_)
    · have hQ := hQ.1 c_89_28
      refine x_iconst (v := (0 : Int32)) d_X10_point_96 (by decide) ?_
      refine x_istore (lv2 := [(6, .int (0 : Int32)), (5, .int x24), (0, .ref a), (1, .int a0), (2, .int a1), (3, .int a2), (4, .int x_4), (7, .int x_7)]) d_X10_point_97 (by decide) rfl ?_
      obtain ⟨x29, e_x29⟩ : ∃ z : Int32, z = x_7 + (1 : Int32) := ⟨_, rfl⟩
      have hQ := hQ x29 e_x29
      refine x_iinc (v := x29) (lv2 := [(7, .int x29), (6, .int (0 : Int32)), (5, .int x24), (0, .ref a), (1, .int a0), (2, .int a1), (3, .int a2), (4, .int x_4)]) 7 d_X10_point_99 rfl (by rw [e_x29]; rfl) (by decide) rfl ?_
      refine x_goto (tgt := 48) d_X10_point_102 (by decide) ?_
      refine x_sub [3, 4, 5, 6, 7, 2, 1, 0] (lv2 := [(0, .ref a), (1, .int a0), (2, .int a1), (3, .int a2), (4, .int x_4), (5, .int x24), (6, .int (0 : Int32)), (7, .int x29)]) rfl ?_
      exact hk_48 x_4 x24 (0 : Int32) x29 y_0 hQ
    · have hQ := hQ.2 c_89_28
      refine x_sub [1, 2, 3, 4, 5, 0, 7] (lv2 := [(0, .ref a), (1, .int a0), (2, .int a1), (3, .int a2), (4, .int x_4), (5, .int x24), (7, .int x_7)]) rfl ?_
      exact jt_X10_point_92 hd hk_48 x_4 x24 x_7 y_0 hQ
def lp_X10_point_48 (a0 : Int32) (a1 : Int32) (a2 : Int32) (K : Int32 → RT → Prop) : Nat → Int32 → Int32 → Int32 → Int32 → RT → Prop
  | 0, _, _, _, _, _ => False
  | n + 1, x_4, x_5, x_6, x_7, y_0 => ((x_4 ≤ x_7 → ((x_6 = (0 : Int32) → ((¬ x_4 = (6 : Int32) → wp_X10_saves y_0 (fun (s11 : RT) => ∃ m : Nat, lp_X10_point_131 a0 a1 a2 K m x_4 x_5 x_4 s11)) ∧ (x_4 = (6 : Int32) → K (-2000000003 : Int32) y_0))) ∧ (¬ x_6 = (0 : Int32) → K (-2000000002 : Int32) y_0))) ∧ (¬ x_4 ≤ x_7 → wp_X10_pointTime y_0 a0 x_7 (fun (r22 : Int32) => ((a1 ≤ r22 → jp_X10_point_73 a0 a1 a2 K (fun v0 v1 v2 v3 v4 => lp_X10_point_48 a0 a1 a2 K n v0 v1 v2 v3 v4) x_4 x_6 x_7 (0 : Int32) x_5 y_0) ∧ (¬ a1 ≤ r22 → jp_X10_point_73 a0 a1 a2 K (fun v0 v1 v2 v3 v4 => lp_X10_point_48 a0 a1 a2 K n v0 v1 v2 v3 v4) x_4 x_6 x_7 (1 : Int32) x_5 y_0)))))
set_option maxHeartbeats 4000000 in
theorem jt_X10_point_48 {G : GX} {l : Launch} {d : Nat} {w : HW} {a : Nat} {a0 : Int32} {a1 : Int32} {a2 : Int32} {K : Int32 → RT → Prop} (hd : 10 ≤ d) : ∀ (n : Nat) (x_4 : Int32) (x_5 : Int32) (x_6 : Int32) (x_7 : Int32) (y_0 : RT), lp_X10_point_48 a0 a1 a2 K n x_4 x_5 x_6 x_7 y_0 → X G l m_X10_point d 0 0 0 0 48 [(0, .ref a), (1, .int a0), (2, .int a1), (3, .int a2), (4, .int x_4), (5, .int x_5), (6, .int x_6), (7, .int x_7)] [] (put w a 22 (shM a y_0)) (fun r w2 => ∃ (r1 : Int32), ∃ (z0 : RT), r = some (.int r1) ∧ w2 = put w a 22 (shM a z0) ∧ K r1 z0) := by
  intro n
  induction n with
  | zero =>
    intro x_4 x_5 x_6 x_7 y_0 hQ
    exact hQ.elim
  | succ n ih =>
    intro x_4 x_5 x_6 x_7 y_0 hQ
    refine x_iload 7 d_X10_point_48 rfl ?_
    refine x_iload 4 d_X10_point_50 rfl ?_
    refine x_icmp_ge (tgt := 105) d_X10_point_52 (by decide) (fun c_52_8 => ?_) (fun c_52_8 => ?_)
    · have hQ := hQ.1 c_52_8
      refine x_iload 6 d_X10_point_105 rfl ?_
      refine x_if_eq (tgt := 113) d_X10_point_107 (by decide) (fun c_107_9 => ?_) (fun c_107_9 => ?_)
      · have hQ := hQ.1 c_107_9
        refine x_iload 4 d_X10_point_113 rfl ?_
        refine x_bipush (v := (6 : Int32)) d_X10_point_115 (by decide) ?_
        refine x_icmp_ne (tgt := 123) d_X10_point_117 (by decide) (fun c_117_10 => ?_) (fun c_117_10 => ?_)
        · have hQ := hQ.1 c_117_10
          refine x_aload_n 0 d_X10_point_123 rfl rfl ?_
          refine x_invV (rest := []) (d' := d - 1) (mc' := 0) (ms' := 0) [] k_X10_saves lk_X10_94 gM_0 rfl rfl rfl (Nat.le_of_ble_eq_true rfl) (by omega) (Nat.le_refl _) (Nat.le_refl _) d_X10_point_124 ((sp_X10_saves (d := d - 1) (by omega) hQ).mono (fun r w2 hr => ?_))
          obtain ⟨s11, rfl, rfl, hQ⟩ := hr
          refine x_iload 4 d_X10_point_127 rfl ?_
          refine x_istore (lv2 := [(7, .int x_4), (0, .ref a), (1, .int a0), (2, .int a1), (3, .int a2), (4, .int x_4), (5, .int x_5), (6, .int x_6)]) d_X10_point_129 (by decide) rfl ?_
          refine x_sub [1, 2, 3, 4, 5, 6, 0] (lv2 := [(0, .ref a), (1, .int a0), (2, .int a1), (3, .int a2), (4, .int x_4), (5, .int x_5), (7, .int x_4)]) rfl ?_
          obtain ⟨m, hQ⟩ := hQ
          exact jt_X10_point_131 hd m x_4 x_5 x_4 s11 hQ
        · have hQ := hQ.2 c_117_10
          refine x_ldc (v := (-2000000003 : Int32)) kc_X10_100 d_X10_point_120 ?_
          exact x_iret (retI d_X10_point_122 rfl) ⟨_, _, rfl, rfl, hQ⟩
      · have hQ := hQ.2 c_107_9
        refine x_ldc (v := (-2000000002 : Int32)) kc_X10_85 d_X10_point_110 ?_
        exact x_iret (retI d_X10_point_112 rfl) ⟨_, _, rfl, rfl, hQ⟩
    · have hQ := hQ.2 c_52_8
      refine x_iload 5 d_X10_point_55 rfl ?_
      refine x_aload_n 0 d_X10_point_57 rfl rfl ?_
      refine x_iload_n 1 d_X10_point_58 rfl rfl ?_
      refine x_iload 7 d_X10_point_59 rfl ?_
      refine x_invV (rest := [.int x_5]) (d' := d - 1) (mc' := 0) (ms' := 0) [.int a0, .int x_7] k_X10_pointTime lk_X10_147 gM_0 rfl rfl rfl (Nat.le_of_ble_eq_true rfl) (by omega) (Nat.le_refl _) (Nat.le_refl _) d_X10_point_61 ((sp_X10_pointTime (d := d - 1) (by omega) hQ).mono (fun r w2 hr => ?_))
      obtain ⟨r22, rfl, rfl, hQ⟩ := hr
      refine x_iload_n 2 d_X10_point_64 rfl rfl ?_
      refine x_icmp_ge (tgt := 72) d_X10_point_65 (by decide) (fun c_65_23 => ?_) (fun c_65_23 => ?_)
      · have hQ := hQ.1 c_65_23
        refine x_iconst (v := (0 : Int32)) d_X10_point_72 (by decide) ?_
        refine x_sub [0, 1, 2, 3, 4, 6, 7] (lv2 := [(0, .ref a), (1, .int a0), (2, .int a1), (3, .int a2), (4, .int x_4), (6, .int x_6), (7, .int x_7)]) rfl ?_
        exact jt_X10_point_73 hd ih x_4 x_6 x_7 (0 : Int32) x_5 y_0 hQ
      · have hQ := hQ.2 c_65_23
        refine x_iconst (v := (1 : Int32)) d_X10_point_68 (by decide) ?_
        refine x_goto (tgt := 73) d_X10_point_69 (by decide) ?_
        refine x_sub [0, 1, 2, 3, 4, 6, 7] (lv2 := [(0, .ref a), (1, .int a0), (2, .int a1), (3, .int a2), (4, .int x_4), (6, .int x_6), (7, .int x_7)]) rfl ?_
        exact jt_X10_point_73 hd ih x_4 x_6 x_7 (1 : Int32) x_5 y_0 hQ
def wp_X10_point (s : RT) (a0 : Int32) (a1 : Int32) (a2 : Int32) (K : Int32 → RT → Prop) : Prop := wp_X10_isThree a0 (fun (r1 : Int32) => ((r1 = (0 : Int32) → K (-2000000001 : Int32) s) ∧ (¬ r1 = (0 : Int32) → wp_X10_within a1 (-10000 : Int32) (0 : Int32) (fun (r3 : Int32) => ((r3 = (0 : Int32) → K (-2000000001 : Int32) s) ∧ (¬ r3 = (0 : Int32) → wp_X10_within a2 (-1000000 : Int32) (1000000 : Int32) (fun (r5 : Int32) => ((¬ r5 = (0 : Int32) → wp_X10_points s a0 (fun (r7 : Int32) => ∃ m : Nat, lp_X10_point_48 a0 a1 a2 K m r7 (0 : Int32) (0 : Int32) (0 : Int32) s)) ∧ (r5 = (0 : Int32) → K (-2000000001 : Int32) s)))))))))
set_option maxHeartbeats 4000000 in
theorem sp_X10_point {G : GX} {l : Launch} {d : Nat} {w : HW} {a : Nat} {s : RT} {a0 : Int32} {a1 : Int32} {a2 : Int32} {K : Int32 → RT → Prop} (hd : 10 ≤ d) (hQ : wp_X10_point s a0 a1 a2 K) : Sp G l m_X10_point d 0 0 [.ref a, .int a0, .int a1, .int a2] (put w a 22 (shM a s)) (fun r w2 => ∃ (r1 : Int32), ∃ (z0 : RT), r = some (.int r1) ∧ w2 = put w a 22 (shM a z0) ∧ K r1 z0) := by
  refine Sp.ofX k_X10_point.1.1 (Nat.le_of_ble_eq_true rfl) ?_
  refine X.lv (lv2 := [(0, .ref a), (1, .int a0), (2, .int a1), (3, .int a2)]) rfl ?_
  refine x_iload_n 1 d_X10_point_0 rfl rfl ?_
  refine x_invS (rest := []) (d' := d - 1) (mc' := 0) (ms' := 0) [.int a0] k_X10_isThree lk_X10_136 rfl rfl (Nat.le_of_ble_eq_true rfl) (by omega) (Nat.le_refl _) (Nat.le_refl _) d_X10_point_1 ((sp_X10_isThree (d := d - 1) (by omega) hQ).mono (fun r w2 hr => ?_))
  obtain ⟨r1, rfl, rfl, hQ⟩ := hr
  refine x_if_eq (tgt := 29) d_X10_point_4 (by decide) (fun c_4_2 => ?_) (fun c_4_2 => ?_)
  · have hQ := hQ.1 c_4_2
    refine x_ldc (v := (-2000000001 : Int32)) kc_X10_90 d_X10_point_29 ?_
    exact x_iret (retI d_X10_point_31 rfl) ⟨_, _, rfl, rfl, hQ⟩
  · have hQ := hQ.2 c_4_2
    refine x_iload_n 2 d_X10_point_7 rfl rfl ?_
    refine x_sipush (v := (-10000 : Int32)) d_X10_point_8 (by decide) ?_
    refine x_iconst (v := (0 : Int32)) d_X10_point_11 (by decide) ?_
    refine x_invS (rest := []) (d' := d - 1) (mc' := 0) (ms' := 0) [.int a1, .int (-10000 : Int32), .int (0 : Int32)] k_X10_within lk_X10_86 rfl rfl (Nat.le_of_ble_eq_true rfl) (by omega) (Nat.le_refl _) (Nat.le_refl _) d_X10_point_12 ((sp_X10_within (d := d - 1) (by omega) hQ).mono (fun r w2 hr => ?_))
    obtain ⟨r3, rfl, rfl, hQ⟩ := hr
    refine x_if_eq (tgt := 29) d_X10_point_15 (by decide) (fun c_15_4 => ?_) (fun c_15_4 => ?_)
    · have hQ := hQ.1 c_15_4
      refine x_ldc (v := (-2000000001 : Int32)) kc_X10_90 d_X10_point_29 ?_
      exact x_iret (retI d_X10_point_31 rfl) ⟨_, _, rfl, rfl, hQ⟩
    · have hQ := hQ.2 c_15_4
      refine x_iload_n 3 d_X10_point_18 rfl rfl ?_
      refine x_ldc (v := (-1000000 : Int32)) kc_X10_142 d_X10_point_19 ?_
      refine x_ldc (v := (1000000 : Int32)) kc_X10_143 d_X10_point_21 ?_
      refine x_invS (rest := []) (d' := d - 1) (mc' := 0) (ms' := 0) [.int a2, .int (-1000000 : Int32), .int (1000000 : Int32)] k_X10_within lk_X10_86 rfl rfl (Nat.le_of_ble_eq_true rfl) (by omega) (Nat.le_refl _) (Nat.le_refl _) d_X10_point_23 ((sp_X10_within (d := d - 1) (by omega) hQ).mono (fun r w2 hr => ?_))
      obtain ⟨r5, rfl, rfl, hQ⟩ := hr
      refine x_if_ne (tgt := 32) d_X10_point_26 (by decide) (fun c_26_6 => ?_) (fun c_26_6 => ?_)
      · have hQ := hQ.1 c_26_6
        refine x_aload_n 0 d_X10_point_32 rfl rfl ?_
        refine x_iload_n 1 d_X10_point_33 rfl rfl ?_
        refine x_invV (rest := []) (d' := d - 1) (mc' := 0) (ms' := 0) [.int a0] k_X10_points lk_X10_144 gM_0 rfl rfl rfl (Nat.le_of_ble_eq_true rfl) (by omega) (Nat.le_refl _) (Nat.le_refl _) d_X10_point_34 ((sp_X10_points (d := d - 1) (by omega) hQ).mono (fun r w2 hr => ?_))
        obtain ⟨r7, rfl, rfl, hQ⟩ := hr
        refine x_istore (lv2 := [(4, .int r7), (0, .ref a), (1, .int a0), (2, .int a1), (3, .int a2)]) d_X10_point_37 (by decide) rfl ?_
        refine x_iconst (v := (0 : Int32)) d_X10_point_39 (by decide) ?_
        refine x_istore (lv2 := [(5, .int (0 : Int32)), (4, .int r7), (0, .ref a), (1, .int a0), (2, .int a1), (3, .int a2)]) d_X10_point_40 (by decide) rfl ?_
        refine x_iconst (v := (0 : Int32)) d_X10_point_42 (by decide) ?_
        refine x_istore (lv2 := [(6, .int (0 : Int32)), (5, .int (0 : Int32)), (4, .int r7), (0, .ref a), (1, .int a0), (2, .int a1), (3, .int a2)]) d_X10_point_43 (by decide) rfl ?_
        refine x_iconst (v := (0 : Int32)) d_X10_point_45 (by decide) ?_
        refine x_istore (lv2 := [(7, .int (0 : Int32)), (6, .int (0 : Int32)), (5, .int (0 : Int32)), (4, .int r7), (0, .ref a), (1, .int a0), (2, .int a1), (3, .int a2)]) d_X10_point_46 (by decide) rfl ?_
        refine x_sub [4, 5, 6, 7, 3, 2, 1, 0] (lv2 := [(0, .ref a), (1, .int a0), (2, .int a1), (3, .int a2), (4, .int r7), (5, .int (0 : Int32)), (6, .int (0 : Int32)), (7, .int (0 : Int32))]) rfl ?_
        obtain ⟨m, hQ⟩ := hQ
        exact jt_X10_point_48 hd m r7 (0 : Int32) (0 : Int32) (0 : Int32) s hQ
      · have hQ := hQ.2 c_26_6
        refine x_ldc (v := (-2000000001 : Int32)) kc_X10_90 d_X10_point_29 ?_
        exact x_iret (retI d_X10_point_31 rfl) ⟨_, _, rfl, rfl, hQ⟩
def lp_X10_clear_22 (a0 : Int32) (K : Int32 → RT → Prop) : Nat → Int32 → Int32 → RT → Prop
  | 0, _, _, _ => False
  | n + 1, x_2, x_3, y_0 => (((13 : Int32) ≤ x_3 → wp_X10_anew y_0 (fun (s6 : RT) => K x_2 s6)) ∧ (¬ (13 : Int32) ≤ x_3 → vp_in (((9 : Int32) + ((13 : Int32) * a0)) + x_3) 812 ∧ ∀ s7 : RT, s7 = rI y_0 1 (upd (y_0.1 1) (((9 : Int32) + ((13 : Int32) * a0)) + x_3).toNatClampNeg (0 : Int32)) → ∀ x8 : Int32, x8 = x_3 + (1 : Int32) → lp_X10_clear_22 a0 K n x_2 x8 s7))
set_option maxHeartbeats 4000000 in
theorem jt_X10_clear_22 {G : GX} {l : Launch} {d : Nat} {w : HW} {a : Nat} {a0 : Int32} {K : Int32 → RT → Prop} (hd : 10 ≤ d) : ∀ (n : Nat) (x_2 : Int32) (x_3 : Int32) (y_0 : RT), lp_X10_clear_22 a0 K n x_2 x_3 y_0 → X G l m_X10_clear d 0 0 0 0 22 [(0, .ref a), (1, .int a0), (2, .int x_2), (3, .int x_3)] [] (put w a 22 (shM a y_0)) (fun r w2 => ∃ (r1 : Int32), ∃ (z0 : RT), r = some (.int r1) ∧ w2 = put w a 22 (shM a z0) ∧ K r1 z0) := by
  intro n
  induction n with
  | zero =>
    intro x_2 x_3 y_0 hQ
    exact hQ.elim
  | succ n ih =>
    intro x_2 x_3 y_0 hQ
    refine x_iload_n 3 d_X10_clear_22 rfl rfl ?_
    refine x_bipush (v := (13 : Int32)) d_X10_clear_23 (by decide) ?_
    refine x_icmp_ge (tgt := 49) d_X10_clear_25 (by decide) (fun c_25_5 => ?_) (fun c_25_5 => ?_)
    · have hQ := hQ.1 c_25_5
      refine x_aload_n 0 d_X10_clear_49 rfl rfl ?_
      refine x_invV (rest := []) (d' := d - 1) (mc' := 0) (ms' := 0) [] k_X10_anew lk_X10_139 gM_0 rfl rfl rfl (Nat.le_of_ble_eq_true rfl) (by omega) (Nat.le_refl _) (Nat.le_refl _) d_X10_clear_50 ((sp_X10_anew (d := d - 1) (by omega) hQ).mono (fun r w2 hr => ?_))
      obtain ⟨s6, rfl, rfl, hQ⟩ := hr
      refine x_iload_n 2 d_X10_clear_53 rfl rfl ?_
      exact x_iret (retI d_X10_clear_54 rfl) ⟨_, _, rfl, rfl, hQ⟩
    · have hQ := hQ.2 c_25_5
      refine x_aload_n 0 d_X10_clear_28 rfl rfl ?_
      refine x_getf 0 gf_X10_7 gM_0 rfl d_X10_clear_29 ?_
      refine x_bipush (v := (9 : Int32)) d_X10_clear_32 (by decide) ?_
      refine x_bipush (v := (13 : Int32)) d_X10_clear_34 (by decide) ?_
      refine x_iload_n 1 d_X10_clear_36 rfl rfl ?_
      refine x_imul d_X10_clear_37 ?_
      refine x_iadd d_X10_clear_38 ?_
      refine x_iload_n 3 d_X10_clear_39 rfl rfl ?_
      refine x_iadd d_X10_clear_40 ?_
      refine x_iconst (v := (0 : Int32)) d_X10_clear_41 (by decide) ?_
      have hN := hQ.1
      have hQ := hQ.2
      refine x_iast gM_1 hN d_X10_clear_42 ?_
      obtain ⟨s7, e_s7⟩ : ∃ z : RT, z = rI y_0 1 (upd (y_0.1 1) (((9 : Int32) + ((13 : Int32) * a0)) + x_3).toNatClampNeg (0 : Int32)) := ⟨_, rfl⟩
      have hQ := hQ s7 e_s7
      refine X.world (w2 := put w a 22 (shM a s7)) (by rw [e_s7]; exact sM_1) ?_
      obtain ⟨x8, e_x8⟩ : ∃ z : Int32, z = x_3 + (1 : Int32) := ⟨_, rfl⟩
      have hQ := hQ x8 e_x8
      refine x_iinc (v := x8) (lv2 := [(3, .int x8), (0, .ref a), (1, .int a0), (2, .int x_2)]) 3 d_X10_clear_43 rfl (by rw [e_x8]; rfl) (by decide) rfl ?_
      refine x_goto (tgt := 22) d_X10_clear_46 (by decide) ?_
      refine x_sub [1, 2, 3, 0] (lv2 := [(0, .ref a), (1, .int a0), (2, .int x_2), (3, .int x8)]) rfl ?_
      exact ih x_2 x8 s7 hQ
def wp_X10_clear (s : RT) (a0 : Int32) (K : Int32 → RT → Prop) : Prop := wp_X10_isThree a0 (fun (r1 : Int32) => ((¬ r1 = (0 : Int32) → wp_X10_saves s (fun (s3 : RT) => wp_X10_points s3 a0 (fun (r4 : Int32) => ∃ m : Nat, lp_X10_clear_22 a0 K m r4 (0 : Int32) s3))) ∧ (r1 = (0 : Int32) → K (-2000000001 : Int32) s)))
set_option maxHeartbeats 4000000 in
theorem sp_X10_clear {G : GX} {l : Launch} {d : Nat} {w : HW} {a : Nat} {s : RT} {a0 : Int32} {K : Int32 → RT → Prop} (hd : 10 ≤ d) (hQ : wp_X10_clear s a0 K) : Sp G l m_X10_clear d 0 0 [.ref a, .int a0] (put w a 22 (shM a s)) (fun r w2 => ∃ (r1 : Int32), ∃ (z0 : RT), r = some (.int r1) ∧ w2 = put w a 22 (shM a z0) ∧ K r1 z0) := by
  refine Sp.ofX k_X10_clear.1.1 (Nat.le_of_ble_eq_true rfl) ?_
  refine X.lv (lv2 := [(0, .ref a), (1, .int a0)]) rfl ?_
  refine x_iload_n 1 d_X10_clear_0 rfl rfl ?_
  refine x_invS (rest := []) (d' := d - 1) (mc' := 0) (ms' := 0) [.int a0] k_X10_isThree lk_X10_136 rfl rfl (Nat.le_of_ble_eq_true rfl) (by omega) (Nat.le_refl _) (Nat.le_refl _) d_X10_clear_1 ((sp_X10_isThree (d := d - 1) (by omega) hQ).mono (fun r w2 hr => ?_))
  obtain ⟨r1, rfl, rfl, hQ⟩ := hr
  refine x_if_ne (tgt := 10) d_X10_clear_4 (by decide) (fun c_4_2 => ?_) (fun c_4_2 => ?_)
  · have hQ := hQ.1 c_4_2
    refine x_aload_n 0 d_X10_clear_10 rfl rfl ?_
    refine x_invV (rest := []) (d' := d - 1) (mc' := 0) (ms' := 0) [] k_X10_saves lk_X10_94 gM_0 rfl rfl rfl (Nat.le_of_ble_eq_true rfl) (by omega) (Nat.le_refl _) (Nat.le_refl _) d_X10_clear_11 ((sp_X10_saves (d := d - 1) (by omega) hQ).mono (fun r w2 hr => ?_))
    obtain ⟨s3, rfl, rfl, hQ⟩ := hr
    refine x_aload_n 0 d_X10_clear_14 rfl rfl ?_
    refine x_iload_n 1 d_X10_clear_15 rfl rfl ?_
    refine x_invV (rest := []) (d' := d - 1) (mc' := 0) (ms' := 0) [.int a0] k_X10_points lk_X10_144 gM_0 rfl rfl rfl (Nat.le_of_ble_eq_true rfl) (by omega) (Nat.le_refl _) (Nat.le_refl _) d_X10_clear_16 ((sp_X10_points (d := d - 1) (by omega) hQ).mono (fun r w2 hr => ?_))
    obtain ⟨r4, rfl, rfl, hQ⟩ := hr
    refine x_istore_n (lv2 := [(2, .int r4), (0, .ref a), (1, .int a0)]) d_X10_clear_19 rfl (by decide) rfl ?_
    refine x_iconst (v := (0 : Int32)) d_X10_clear_20 (by decide) ?_
    refine x_istore_n (lv2 := [(3, .int (0 : Int32)), (2, .int r4), (0, .ref a), (1, .int a0)]) d_X10_clear_21 rfl (by decide) rfl ?_
    refine x_sub [2, 3, 1, 0] (lv2 := [(0, .ref a), (1, .int a0), (2, .int r4), (3, .int (0 : Int32))]) rfl ?_
    obtain ⟨m, hQ⟩ := hQ
    exact jt_X10_clear_22 hd m r4 (0 : Int32) s3 hQ
  · have hQ := hQ.2 c_4_2
    refine x_ldc (v := (-2000000001 : Int32)) kc_X10_90 d_X10_clear_7 ?_
    exact x_iret (retI d_X10_clear_9 rfl) ⟨_, _, rfl, rfl, hQ⟩
def jp_X10_set_49 (a0 : Int32) (a1 : Int32) (K : Int32 → RT → Prop) (t_0 : Int32) (y_0 : RT) : Prop := ((¬ t_0 = (0 : Int32) → wp_X10_saves y_0 (fun (s5 : RT) => vp_in a0 812 ∧ ∀ x6 : Int32, x6 = (s5.1 1 a0.toNatClampNeg) → vp_in a0 812 ∧ ∀ s7 : RT, s7 = rI s5 1 (upd (s5.1 1) a0.toNatClampNeg a1) → wp_X10_anew s7 (fun (s8 : RT) => K x6 s8))) ∧ (t_0 = (0 : Int32) → K (-2000000001 : Int32) y_0))
set_option maxHeartbeats 4000000 in
theorem jt_X10_set_49 {G : GX} {l : Launch} {d : Nat} {w : HW} {a : Nat} {a0 : Int32} {a1 : Int32} {K : Int32 → RT → Prop} (hd : 10 ≤ d) (t_0 : Int32) (y_0 : RT) (hQ : jp_X10_set_49 a0 a1 K t_0 y_0) : X G l m_X10_set d 0 0 0 0 49 [(0, .ref a), (1, .int a0), (2, .int a1)] [.int t_0] (put w a 22 (shM a y_0)) (fun r w2 => ∃ (r1 : Int32), ∃ (z0 : RT), r = some (.int r1) ∧ w2 = put w a 22 (shM a z0) ∧ K r1 z0) := by
  refine x_istore_n (lv2 := [(3, .int t_0), (0, .ref a), (1, .int a0), (2, .int a1)]) d_X10_set_49 rfl (by decide) rfl ?_
  refine x_iload_n 0 d_X10_set_50 rfl rfl ?_
  refine x_if_ne (tgt := 57) d_X10_set_51 (by decide) (fun c_51_4 => ?_) (fun c_51_4 => ?_)
  · have hQ := hQ.1 c_51_4
    refine x_aload_n 1 d_X10_set_57 rfl rfl ?_
    refine x_invV (rest := []) (d' := d - 1) (mc' := 0) (ms' := 0) [] k_X10_saves lk_X10_94 gM_0 rfl rfl rfl (Nat.le_of_ble_eq_true rfl) (by omega) (Nat.le_refl _) (Nat.le_refl _) d_X10_set_58 ((sp_X10_saves (d := d - 1) (by omega) hQ).mono (fun r w2 hr => ?_))
    obtain ⟨s5, rfl, rfl, hQ⟩ := hr
    refine x_aload_n 1 d_X10_set_61 rfl rfl ?_
    refine x_getf 0 gf_X10_7 gM_0 rfl d_X10_set_62 ?_
    refine x_iload_n 2 d_X10_set_65 rfl rfl ?_
    have hN := hQ.1
    have hQ := hQ.2
    refine x_iald gM_1 hN d_X10_set_66 ?_
    refine x_topi (fun x6 e_x6 => ?_)
    have hQ := hQ x6 e_x6
    refine x_istore (lv2 := [(4, .int x6), (3, .int t_0), (0, .ref a), (1, .int a0), (2, .int a1)]) d_X10_set_67 (by decide) rfl ?_
    refine x_aload_n 2 d_X10_set_69 rfl rfl ?_
    refine x_getf 0 gf_X10_7 gM_0 rfl d_X10_set_70 ?_
    refine x_iload_n 3 d_X10_set_73 rfl rfl ?_
    refine x_iload_n 4 d_X10_set_74 rfl rfl ?_
    have hN := hQ.1
    have hQ := hQ.2
    refine x_iast gM_1 hN d_X10_set_75 ?_
    obtain ⟨s7, e_s7⟩ : ∃ z : RT, z = rI s5 1 (upd (s5.1 1) a0.toNatClampNeg a1) := ⟨_, rfl⟩
    have hQ := hQ s7 e_s7
    refine X.world (w2 := put w a 22 (shM a s7)) (by rw [e_s7]; exact sM_1) ?_
    refine x_aload_n 2 d_X10_set_76 rfl rfl ?_
    refine x_invV (rest := []) (d' := d - 1) (mc' := 0) (ms' := 0) [] k_X10_anew lk_X10_139 gM_0 rfl rfl rfl (Nat.le_of_ble_eq_true rfl) (by omega) (Nat.le_refl _) (Nat.le_refl _) d_X10_set_77 ((sp_X10_anew (d := d - 1) (by omega) hQ).mono (fun r w2 hr => ?_))
    obtain ⟨s8, rfl, rfl, hQ⟩ := hr
    refine x_iload 0 d_X10_set_80 rfl ?_
    exact x_iret (retI d_X10_set_82 rfl) ⟨_, _, rfl, rfl, hQ⟩
  · have hQ := hQ.2 c_51_4
    refine x_ldc (v := (-2000000001 : Int32)) kc_X10_90 d_X10_set_54 ?_
    exact x_iret (retI d_X10_set_56 rfl) ⟨_, _, rfl, rfl, hQ⟩
def jp_X10_set_48 (a0 : Int32) (a1 : Int32) (K : Int32 → RT → Prop) (y_0 : RT) : Prop := jp_X10_set_49 a0 a1 K (0 : Int32) y_0
set_option maxHeartbeats 4000000 in
theorem jt_X10_set_48 {G : GX} {l : Launch} {d : Nat} {w : HW} {a : Nat} {a0 : Int32} {a1 : Int32} {K : Int32 → RT → Prop} (hd : 10 ≤ d) (y_0 : RT) (hQ : jp_X10_set_48 a0 a1 K y_0) : X G l m_X10_set d 0 0 0 0 48 [(0, .ref a), (1, .int a0), (2, .int a1)] [] (put w a 22 (shM a y_0)) (fun r w2 => ∃ (r1 : Int32), ∃ (z0 : RT), r = some (.int r1) ∧ w2 = put w a 22 (shM a z0) ∧ K r1 z0) := by
  refine x_iconst (v := (0 : Int32)) d_X10_set_48 (by decide) ?_
  refine x_sub [0, 1, 2] (lv2 := [(0, .ref a), (1, .int a0), (2, .int a1)]) rfl ?_
  exact jt_X10_set_49 hd (0 : Int32) y_0 hQ
def jp_X10_set_44 (a0 : Int32) (a1 : Int32) (K : Int32 → RT → Prop) (y_0 : RT) : Prop := jp_X10_set_49 a0 a1 K (1 : Int32) y_0
set_option maxHeartbeats 4000000 in
theorem jt_X10_set_44 {G : GX} {l : Launch} {d : Nat} {w : HW} {a : Nat} {a0 : Int32} {a1 : Int32} {K : Int32 → RT → Prop} (hd : 10 ≤ d) (y_0 : RT) (hQ : jp_X10_set_44 a0 a1 K y_0) : X G l m_X10_set d 0 0 0 0 44 [(0, .ref a), (1, .int a0), (2, .int a1)] [] (put w a 22 (shM a y_0)) (fun r w2 => ∃ (r1 : Int32), ∃ (z0 : RT), r = some (.int r1) ∧ w2 = put w a 22 (shM a z0) ∧ K r1 z0) := by
  refine x_iconst (v := (1 : Int32)) d_X10_set_44 (by decide) ?_
  refine x_goto (tgt := 49) d_X10_set_45 (by decide) ?_
  refine x_sub [0, 1, 2] (lv2 := [(0, .ref a), (1, .int a0), (2, .int a1)]) rfl ?_
  exact jt_X10_set_49 hd (1 : Int32) y_0 hQ
def jp_X10_set_30 (a0 : Int32) (a1 : Int32) (K : Int32 → RT → Prop) (y_0 : RT) : Prop := ((¬ a0 = (2 : Int32) → jp_X10_set_48 a0 a1 K y_0) ∧ (a0 = (2 : Int32) → wp_X10_within a1 (0 : Int32) (3 : Int32) (fun (r9 : Int32) => ((r9 = (0 : Int32) → jp_X10_set_48 a0 a1 K y_0) ∧ (¬ r9 = (0 : Int32) → jp_X10_set_44 a0 a1 K y_0)))))
set_option maxHeartbeats 4000000 in
theorem jt_X10_set_30 {G : GX} {l : Launch} {d : Nat} {w : HW} {a : Nat} {a0 : Int32} {a1 : Int32} {K : Int32 → RT → Prop} (hd : 10 ≤ d) (y_0 : RT) (hQ : jp_X10_set_30 a0 a1 K y_0) : X G l m_X10_set d 0 0 0 0 30 [(0, .ref a), (1, .int a0), (2, .int a1)] [] (put w a 22 (shM a y_0)) (fun r w2 => ∃ (r1 : Int32), ∃ (z0 : RT), r = some (.int r1) ∧ w2 = put w a 22 (shM a z0) ∧ K r1 z0) := by
  refine x_iload_n 1 d_X10_set_30 rfl rfl ?_
  refine x_iconst (v := (2 : Int32)) d_X10_set_31 (by decide) ?_
  refine x_icmp_ne (tgt := 48) d_X10_set_32 (by decide) (fun c_32_3 => ?_) (fun c_32_3 => ?_)
  · have hQ := hQ.1 c_32_3
    refine x_sub [0, 1, 2] (lv2 := [(0, .ref a), (1, .int a0), (2, .int a1)]) rfl ?_
    exact jt_X10_set_48 hd y_0 hQ
  · have hQ := hQ.2 c_32_3
    refine x_iload_n 2 d_X10_set_35 rfl rfl ?_
    refine x_iconst (v := (0 : Int32)) d_X10_set_36 (by decide) ?_
    refine x_iconst (v := (3 : Int32)) d_X10_set_37 (by decide) ?_
    refine x_invS (rest := []) (d' := d - 1) (mc' := 0) (ms' := 0) [.int a1, .int (0 : Int32), .int (3 : Int32)] k_X10_within lk_X10_86 rfl rfl (Nat.le_of_ble_eq_true rfl) (by omega) (Nat.le_refl _) (Nat.le_refl _) d_X10_set_38 ((sp_X10_within (d := d - 1) (by omega) hQ).mono (fun r w2 hr => ?_))
    obtain ⟨r9, rfl, rfl, hQ⟩ := hr
    refine x_if_eq (tgt := 48) d_X10_set_41 (by decide) (fun c_41_10 => ?_) (fun c_41_10 => ?_)
    · have hQ := hQ.1 c_41_10
      refine x_sub [0, 1, 2] (lv2 := [(0, .ref a), (1, .int a0), (2, .int a1)]) rfl ?_
      exact jt_X10_set_48 hd y_0 hQ
    · have hQ := hQ.2 c_41_10
      refine x_sub [0, 1, 2] (lv2 := [(0, .ref a), (1, .int a0), (2, .int a1)]) rfl ?_
      exact jt_X10_set_44 hd y_0 hQ
def jp_X10_set_16 (a0 : Int32) (a1 : Int32) (K : Int32 → RT → Prop) (y_0 : RT) : Prop := ((¬ a0 = (1 : Int32) → jp_X10_set_30 a0 a1 K y_0) ∧ (a0 = (1 : Int32) → wp_X10_within a1 (0 : Int32) (4 : Int32) (fun (r11 : Int32) => ((¬ r11 = (0 : Int32) → jp_X10_set_44 a0 a1 K y_0) ∧ (r11 = (0 : Int32) → jp_X10_set_30 a0 a1 K y_0)))))
set_option maxHeartbeats 4000000 in
theorem jt_X10_set_16 {G : GX} {l : Launch} {d : Nat} {w : HW} {a : Nat} {a0 : Int32} {a1 : Int32} {K : Int32 → RT → Prop} (hd : 10 ≤ d) (y_0 : RT) (hQ : jp_X10_set_16 a0 a1 K y_0) : X G l m_X10_set d 0 0 0 0 16 [(0, .ref a), (1, .int a0), (2, .int a1)] [] (put w a 22 (shM a y_0)) (fun r w2 => ∃ (r1 : Int32), ∃ (z0 : RT), r = some (.int r1) ∧ w2 = put w a 22 (shM a z0) ∧ K r1 z0) := by
  refine x_iload_n 1 d_X10_set_16 rfl rfl ?_
  refine x_iconst (v := (1 : Int32)) d_X10_set_17 (by decide) ?_
  refine x_icmp_ne (tgt := 30) d_X10_set_18 (by decide) (fun c_18_2 => ?_) (fun c_18_2 => ?_)
  · have hQ := hQ.1 c_18_2
    refine x_sub [0, 1, 2] (lv2 := [(0, .ref a), (1, .int a0), (2, .int a1)]) rfl ?_
    exact jt_X10_set_30 hd y_0 hQ
  · have hQ := hQ.2 c_18_2
    refine x_iload_n 2 d_X10_set_21 rfl rfl ?_
    refine x_iconst (v := (0 : Int32)) d_X10_set_22 (by decide) ?_
    refine x_iconst (v := (4 : Int32)) d_X10_set_23 (by decide) ?_
    refine x_invS (rest := []) (d' := d - 1) (mc' := 0) (ms' := 0) [.int a1, .int (0 : Int32), .int (4 : Int32)] k_X10_within lk_X10_86 rfl rfl (Nat.le_of_ble_eq_true rfl) (by omega) (Nat.le_refl _) (Nat.le_refl _) d_X10_set_24 ((sp_X10_within (d := d - 1) (by omega) hQ).mono (fun r w2 hr => ?_))
    obtain ⟨r11, rfl, rfl, hQ⟩ := hr
    refine x_if_ne (tgt := 44) d_X10_set_27 (by decide) (fun c_27_12 => ?_) (fun c_27_12 => ?_)
    · have hQ := hQ.1 c_27_12
      refine x_sub [0, 1, 2] (lv2 := [(0, .ref a), (1, .int a0), (2, .int a1)]) rfl ?_
      exact jt_X10_set_44 hd y_0 hQ
    · have hQ := hQ.2 c_27_12
      refine x_sub [0, 1, 2] (lv2 := [(0, .ref a), (1, .int a0), (2, .int a1)]) rfl ?_
      exact jt_X10_set_30 hd y_0 hQ
def wp_X10_set (s : RT) (a0 : Int32) (a1 : Int32) (K : Int32 → RT → Prop) : Prop := ((¬ a0 = (0 : Int32) → jp_X10_set_16 a0 a1 K s) ∧ (a0 = (0 : Int32) → wp_X10_within a1 (20 : Int32) (500 : Int32) (fun (r13 : Int32) => ((¬ r13 = (0 : Int32) → jp_X10_set_44 a0 a1 K s) ∧ (r13 = (0 : Int32) → jp_X10_set_16 a0 a1 K s)))))
set_option maxHeartbeats 4000000 in
theorem sp_X10_set {G : GX} {l : Launch} {d : Nat} {w : HW} {a : Nat} {s : RT} {a0 : Int32} {a1 : Int32} {K : Int32 → RT → Prop} (hd : 10 ≤ d) (hQ : wp_X10_set s a0 a1 K) : Sp G l m_X10_set d 0 0 [.ref a, .int a0, .int a1] (put w a 22 (shM a s)) (fun r w2 => ∃ (r1 : Int32), ∃ (z0 : RT), r = some (.int r1) ∧ w2 = put w a 22 (shM a z0) ∧ K r1 z0) := by
  refine Sp.ofX k_X10_set.1.1 (Nat.le_of_ble_eq_true rfl) ?_
  refine X.lv (lv2 := [(0, .ref a), (1, .int a0), (2, .int a1)]) rfl ?_
  refine x_iload_n 1 d_X10_set_0 rfl rfl ?_
  refine x_if_ne (tgt := 16) d_X10_set_1 (by decide) (fun c_1_1 => ?_) (fun c_1_1 => ?_)
  · have hQ := hQ.1 c_1_1
    refine x_sub [0, 1, 2] (lv2 := [(0, .ref a), (1, .int a0), (2, .int a1)]) rfl ?_
    exact jt_X10_set_16 hd s hQ
  · have hQ := hQ.2 c_1_1
    refine x_iload_n 2 d_X10_set_4 rfl rfl ?_
    refine x_bipush (v := (20 : Int32)) d_X10_set_5 (by decide) ?_
    refine x_sipush (v := (500 : Int32)) d_X10_set_7 (by decide) ?_
    refine x_invS (rest := []) (d' := d - 1) (mc' := 0) (ms' := 0) [.int a1, .int (20 : Int32), .int (500 : Int32)] k_X10_within lk_X10_86 rfl rfl (Nat.le_of_ble_eq_true rfl) (by omega) (Nat.le_refl _) (Nat.le_refl _) d_X10_set_10 ((sp_X10_within (d := d - 1) (by omega) hQ).mono (fun r w2 hr => ?_))
    obtain ⟨r13, rfl, rfl, hQ⟩ := hr
    refine x_if_ne (tgt := 44) d_X10_set_13 (by decide) (fun c_13_14 => ?_) (fun c_13_14 => ?_)
    · have hQ := hQ.1 c_13_14
      refine x_sub [0, 1, 2] (lv2 := [(0, .ref a), (1, .int a0), (2, .int a1)]) rfl ?_
      exact jt_X10_set_44 hd s hQ
    · have hQ := hQ.2 c_13_14
      refine x_sub [0, 1, 2] (lv2 := [(0, .ref a), (1, .int a0), (2, .int a1)]) rfl ?_
      exact jt_X10_set_16 hd s hQ
def wp_X10_solve (s : RT) (a0 : Int32) (K : Int32 → RT → Prop) : Prop := wp_X10_within a0 (1 : Int32) (2000 : Int32) (fun (r1 : Int32) => ((¬ r1 = (0 : Int32) → ((((s.2.2 18) + a0) ≤ (8000 : Int32) → wp_X10_saves s (fun (s4 : RT) => ∀ x5 : Int32, x5 = (s4.2.2 18) + a0 → vp_in (291 : Int32) 812 ∧ vp_in ((292 : Int32) + (s4.1 1 (291 : Int32).toNatClampNeg)) 812 ∧ ∀ s6 : RT, s6 = rI s4 1 (upd (s4.1 1) ((292 : Int32) + (s4.1 1 (291 : Int32).toNatClampNeg)).toNatClampNeg x5) → vp_in (291 : Int32) 812 ∧ vp_in (291 : Int32) 812 ∧ ∀ s7 : RT, s7 = rI s6 1 (upd (s6.1 1) (291 : Int32).toNatClampNeg ((s6.1 1 (291 : Int32).toNatClampNeg) + (1 : Int32))) → wp_X10_goesTo s7 x5 (fun (s8 : RT) => K (s8.2.2 18) s8))) ∧ (¬ ((s.2.2 18) + a0) ≤ (8000 : Int32) → K (-2000000003 : Int32) s))) ∧ (r1 = (0 : Int32) → K (-2000000001 : Int32) s)))
set_option maxHeartbeats 4000000 in
theorem sp_X10_solve {G : GX} {l : Launch} {d : Nat} {w : HW} {a : Nat} {s : RT} {a0 : Int32} {K : Int32 → RT → Prop} (hd : 8 ≤ d) (hQ : wp_X10_solve s a0 K) : Sp G l m_X10_solve d 0 0 [.ref a, .int a0] (put w a 22 (shM a s)) (fun r w2 => ∃ (r1 : Int32), ∃ (z0 : RT), r = some (.int r1) ∧ w2 = put w a 22 (shM a z0) ∧ K r1 z0) := by
  refine Sp.ofX k_X10_solve.1.1 (Nat.le_of_ble_eq_true rfl) ?_
  refine X.lv (lv2 := [(0, .ref a), (1, .int a0)]) rfl ?_
  refine x_iload_n 1 d_X10_solve_0 rfl rfl ?_
  refine x_iconst (v := (1 : Int32)) d_X10_solve_1 (by decide) ?_
  refine x_sipush (v := (2000 : Int32)) d_X10_solve_2 (by decide) ?_
  refine x_invS (rest := []) (d' := d - 1) (mc' := 0) (ms' := 0) [.int a0, .int (1 : Int32), .int (2000 : Int32)] k_X10_within lk_X10_86 rfl rfl (Nat.le_of_ble_eq_true rfl) (by omega) (Nat.le_refl _) (Nat.le_refl _) d_X10_solve_5 ((sp_X10_within (d := d - 1) (by omega) hQ).mono (fun r w2 hr => ?_))
  obtain ⟨r1, rfl, rfl, hQ⟩ := hr
  refine x_if_ne (tgt := 14) d_X10_solve_8 (by decide) (fun c_8_2 => ?_) (fun c_8_2 => ?_)
  · have hQ := hQ.1 c_8_2
    refine x_aload_n 0 d_X10_solve_14 rfl rfl ?_
    refine x_getf 18 gf_X10_91 gM_0 rfl d_X10_solve_15 ?_
    refine x_iload_n 1 d_X10_solve_18 rfl rfl ?_
    refine x_iadd d_X10_solve_19 ?_
    refine x_sipush (v := (8000 : Int32)) d_X10_solve_20 (by decide) ?_
    refine x_icmp_le (tgt := 29) d_X10_solve_23 (by decide) (fun c_23_3 => ?_) (fun c_23_3 => ?_)
    · have hQ := hQ.1 c_23_3
      refine x_aload_n 0 d_X10_solve_29 rfl rfl ?_
      refine x_invV (rest := []) (d' := d - 1) (mc' := 0) (ms' := 0) [] k_X10_saves lk_X10_94 gM_0 rfl rfl rfl (Nat.le_of_ble_eq_true rfl) (by omega) (Nat.le_refl _) (Nat.le_refl _) d_X10_solve_30 ((sp_X10_saves (d := d - 1) (by omega) hQ).mono (fun r w2 hr => ?_))
      obtain ⟨s4, rfl, rfl, hQ⟩ := hr
      refine x_aload_n 0 d_X10_solve_33 rfl rfl ?_
      refine x_getf 18 gf_X10_91 gM_0 rfl d_X10_solve_34 ?_
      refine x_iload_n 1 d_X10_solve_37 rfl rfl ?_
      refine x_iadd d_X10_solve_38 ?_
      refine x_topi (fun x5 e_x5 => ?_)
      have hQ := hQ x5 e_x5
      refine x_istore_n (lv2 := [(2, .int x5), (0, .ref a), (1, .int a0)]) d_X10_solve_39 rfl (by decide) rfl ?_
      refine x_aload_n 1 d_X10_solve_40 rfl rfl ?_
      refine x_getf 0 gf_X10_7 gM_0 rfl d_X10_solve_41 ?_
      refine x_sipush (v := (292 : Int32)) d_X10_solve_44 (by decide) ?_
      refine x_aload_n 1 d_X10_solve_47 rfl rfl ?_
      refine x_getf 0 gf_X10_7 gM_0 rfl d_X10_solve_48 ?_
      refine x_sipush (v := (291 : Int32)) d_X10_solve_51 (by decide) ?_
      have hN := hQ.1
      have hQ := hQ.2
      refine x_iald gM_1 hN d_X10_solve_54 ?_
      refine x_iadd d_X10_solve_55 ?_
      refine x_iload_n 0 d_X10_solve_56 rfl rfl ?_
      have hN := hQ.1
      have hQ := hQ.2
      refine x_iast gM_1 hN d_X10_solve_57 ?_
      obtain ⟨s6, e_s6⟩ : ∃ z : RT, z = rI s4 1 (upd (s4.1 1) ((292 : Int32) + (s4.1 1 (291 : Int32).toNatClampNeg)).toNatClampNeg x5) := ⟨_, rfl⟩
      have hQ := hQ s6 e_s6
      refine X.world (w2 := put w a 22 (shM a s6)) (by rw [e_s6]; exact sM_1) ?_
      refine x_aload_n 1 d_X10_solve_58 rfl rfl ?_
      refine x_getf 0 gf_X10_7 gM_0 rfl d_X10_solve_59 ?_
      refine x_sipush (v := (291 : Int32)) d_X10_solve_62 (by decide) ?_
      refine x_dup2_11 d_X10_solve_65 rfl rfl ?_
      have hN := hQ.1
      have hQ := hQ.2
      refine x_iald gM_1 hN d_X10_solve_66 ?_
      refine x_iconst (v := (1 : Int32)) d_X10_solve_67 (by decide) ?_
      refine x_iadd d_X10_solve_68 ?_
      have hN := hQ.1
      have hQ := hQ.2
      refine x_iast gM_1 hN d_X10_solve_69 ?_
      obtain ⟨s7, e_s7⟩ : ∃ z : RT, z = rI s6 1 (upd (s6.1 1) (291 : Int32).toNatClampNeg ((s6.1 1 (291 : Int32).toNatClampNeg) + (1 : Int32))) := ⟨_, rfl⟩
      have hQ := hQ s7 e_s7
      refine X.world (w2 := put w a 22 (shM a s7)) (by rw [e_s7]; exact sM_1) ?_
      refine x_aload_n 1 d_X10_solve_70 rfl rfl ?_
      refine x_iload_n 0 d_X10_solve_71 rfl rfl ?_
      refine x_invV (rest := []) (d' := d - 1) (mc' := 0) (ms' := 0) [.int x5] k_X10_goesTo lk_X10_268 gM_0 rfl rfl rfl (Nat.le_of_ble_eq_true rfl) (by omega) (Nat.le_refl _) (Nat.le_refl _) d_X10_solve_72 ((sp_X10_goesTo (d := d - 1) (by omega) hQ).mono (fun r w2 hr => ?_))
      obtain ⟨s8, rfl, rfl, hQ⟩ := hr
      refine x_aload_n 1 d_X10_solve_75 rfl rfl ?_
      refine x_getf 18 gf_X10_91 gM_0 rfl d_X10_solve_76 ?_
      exact x_iret (retI d_X10_solve_79 rfl) ⟨_, _, rfl, rfl, hQ⟩
    · have hQ := hQ.2 c_23_3
      refine x_ldc (v := (-2000000003 : Int32)) kc_X10_100 d_X10_solve_26 ?_
      exact x_iret (retI d_X10_solve_28 rfl) ⟨_, _, rfl, rfl, hQ⟩
  · have hQ := hQ.2 c_8_2
    refine x_ldc (v := (-2000000001 : Int32)) kc_X10_90 d_X10_solve_11 ?_
    exact x_iret (retI d_X10_solve_13 rfl) ⟨_, _, rfl, rfl, hQ⟩
def wp_X10_value (s : RT) (a0 : Int32) (a1 : Int32) (K : Int32 → Prop) : Prop := wp_X10_isThree a0 (fun (r1 : Int32) => ((r1 = (0 : Int32) → K (-2000000001 : Int32)) ∧ (¬ r1 = (0 : Int32) → wp_X10_within a1 (-10000 : Int32) (8000 : Int32) (fun (r3 : Int32) => ((¬ r3 = (0 : Int32) → ((a1 ≤ (s.2.2 18) → wp_X10_toldValue s a0 a1 (fun (r6 : Int64) => K (r6.toInt32))) ∧ (¬ a1 ≤ (s.2.2 18) → K (-2000000004 : Int32)))) ∧ (r3 = (0 : Int32) → K (-2000000001 : Int32)))))))
set_option maxHeartbeats 4000000 in
theorem sp_X10_value {G : GX} {l : Launch} {d : Nat} {w : HW} {a : Nat} {s : RT} {a0 : Int32} {a1 : Int32} {K : Int32 → Prop} (hd : 3 ≤ d) (hQ : wp_X10_value s a0 a1 K) : Sp G l m_X10_value d 0 0 [.ref a, .int a0, .int a1] (put w a 22 (shM a s)) (fun r w2 => ∃ (r1 : Int32), r = some (.int r1) ∧ w2 = put w a 22 (shM a s) ∧ K r1) := by
  refine Sp.ofX k_X10_value.1.1 (Nat.le_of_ble_eq_true rfl) ?_
  refine X.lv (lv2 := [(0, .ref a), (1, .int a0), (2, .int a1)]) rfl ?_
  refine x_iload_n 1 d_X10_value_0 rfl rfl ?_
  refine x_invS (rest := []) (d' := d - 1) (mc' := 0) (ms' := 0) [.int a0] k_X10_isThree lk_X10_136 rfl rfl (Nat.le_of_ble_eq_true rfl) (by omega) (Nat.le_refl _) (Nat.le_refl _) d_X10_value_1 ((sp_X10_isThree (d := d - 1) (by omega) hQ).mono (fun r w2 hr => ?_))
  obtain ⟨r1, rfl, rfl, hQ⟩ := hr
  refine x_if_eq (tgt := 20) d_X10_value_4 (by decide) (fun c_4_2 => ?_) (fun c_4_2 => ?_)
  · have hQ := hQ.1 c_4_2
    refine x_ldc (v := (-2000000001 : Int32)) kc_X10_90 d_X10_value_20 ?_
    exact x_iret (retI d_X10_value_22 rfl) ⟨_, rfl, rfl, hQ⟩
  · have hQ := hQ.2 c_4_2
    refine x_iload_n 2 d_X10_value_7 rfl rfl ?_
    refine x_sipush (v := (-10000 : Int32)) d_X10_value_8 (by decide) ?_
    refine x_sipush (v := (8000 : Int32)) d_X10_value_11 (by decide) ?_
    refine x_invS (rest := []) (d' := d - 1) (mc' := 0) (ms' := 0) [.int a1, .int (-10000 : Int32), .int (8000 : Int32)] k_X10_within lk_X10_86 rfl rfl (Nat.le_of_ble_eq_true rfl) (by omega) (Nat.le_refl _) (Nat.le_refl _) d_X10_value_14 ((sp_X10_within (d := d - 1) (by omega) hQ).mono (fun r w2 hr => ?_))
    obtain ⟨r3, rfl, rfl, hQ⟩ := hr
    refine x_if_ne (tgt := 23) d_X10_value_17 (by decide) (fun c_17_4 => ?_) (fun c_17_4 => ?_)
    · have hQ := hQ.1 c_17_4
      refine x_iload_n 2 d_X10_value_23 rfl rfl ?_
      refine x_aload_n 0 d_X10_value_24 rfl rfl ?_
      refine x_getf 18 gf_X10_91 gM_0 rfl d_X10_value_25 ?_
      refine x_icmp_le (tgt := 36) d_X10_value_28 (by decide) (fun c_28_5 => ?_) (fun c_28_5 => ?_)
      · have hQ := hQ.1 c_28_5
        refine x_aload_n 0 d_X10_value_36 rfl rfl ?_
        refine x_iload_n 1 d_X10_value_37 rfl rfl ?_
        refine x_iload_n 2 d_X10_value_38 rfl rfl ?_
        refine x_invV (rest := []) (d' := d - 1) (mc' := 0) (ms' := 0) [.int a0, .int a1] k_X10_toldValue lk_X10_210 gM_0 rfl rfl rfl (Nat.le_of_ble_eq_true rfl) (by omega) (Nat.le_refl _) (Nat.le_refl _) d_X10_value_39 ((sp_X10_toldValue (d := d - 1) (by omega) hQ).mono (fun r w2 hr => ?_))
        obtain ⟨r6, rfl, rfl, hQ⟩ := hr
        refine x_l2i d_X10_value_42 rfl ?_
        exact x_iret (retI d_X10_value_43 rfl) ⟨_, rfl, rfl, hQ⟩
      · have hQ := hQ.2 c_28_5
        refine x_ldc (v := (-2000000004 : Int32)) kc_X10_125 d_X10_value_31 ?_
        refine x_goto (tgt := 43) d_X10_value_33 (by decide) ?_
        exact x_iret (retI d_X10_value_43 rfl) ⟨_, rfl, rfl, hQ⟩
    · have hQ := hQ.2 c_17_4
      refine x_ldc (v := (-2000000001 : Int32)) kc_X10_90 d_X10_value_20 ?_
      exact x_iret (retI d_X10_value_22 rfl) ⟨_, rfl, rfl, hQ⟩
def wp_X10_slope (s : RT) (a0 : Int32) (a1 : Int32) (K : Int32 → Prop) : Prop := wp_X10_isThree a0 (fun (r1 : Int32) => ((r1 = (0 : Int32) → K (-2000000001 : Int32)) ∧ (¬ r1 = (0 : Int32) → wp_X10_within a1 (-10000 : Int32) (8000 : Int32) (fun (r3 : Int32) => ((¬ r3 = (0 : Int32) → ((a1 ≤ (s.2.2 18) → wp_X10_toldSlope s a0 a1 (fun (r6 : Int64) => K (r6.toInt32))) ∧ (¬ a1 ≤ (s.2.2 18) → K (-2000000004 : Int32)))) ∧ (r3 = (0 : Int32) → K (-2000000001 : Int32)))))))
set_option maxHeartbeats 4000000 in
theorem sp_X10_slope {G : GX} {l : Launch} {d : Nat} {w : HW} {a : Nat} {s : RT} {a0 : Int32} {a1 : Int32} {K : Int32 → Prop} (hd : 3 ≤ d) (hQ : wp_X10_slope s a0 a1 K) : Sp G l m_X10_slope d 0 0 [.ref a, .int a0, .int a1] (put w a 22 (shM a s)) (fun r w2 => ∃ (r1 : Int32), r = some (.int r1) ∧ w2 = put w a 22 (shM a s) ∧ K r1) := by
  refine Sp.ofX k_X10_slope.1.1 (Nat.le_of_ble_eq_true rfl) ?_
  refine X.lv (lv2 := [(0, .ref a), (1, .int a0), (2, .int a1)]) rfl ?_
  refine x_iload_n 1 d_X10_slope_0 rfl rfl ?_
  refine x_invS (rest := []) (d' := d - 1) (mc' := 0) (ms' := 0) [.int a0] k_X10_isThree lk_X10_136 rfl rfl (Nat.le_of_ble_eq_true rfl) (by omega) (Nat.le_refl _) (Nat.le_refl _) d_X10_slope_1 ((sp_X10_isThree (d := d - 1) (by omega) hQ).mono (fun r w2 hr => ?_))
  obtain ⟨r1, rfl, rfl, hQ⟩ := hr
  refine x_if_eq (tgt := 20) d_X10_slope_4 (by decide) (fun c_4_2 => ?_) (fun c_4_2 => ?_)
  · have hQ := hQ.1 c_4_2
    refine x_ldc (v := (-2000000001 : Int32)) kc_X10_90 d_X10_slope_20 ?_
    exact x_iret (retI d_X10_slope_22 rfl) ⟨_, rfl, rfl, hQ⟩
  · have hQ := hQ.2 c_4_2
    refine x_iload_n 2 d_X10_slope_7 rfl rfl ?_
    refine x_sipush (v := (-10000 : Int32)) d_X10_slope_8 (by decide) ?_
    refine x_sipush (v := (8000 : Int32)) d_X10_slope_11 (by decide) ?_
    refine x_invS (rest := []) (d' := d - 1) (mc' := 0) (ms' := 0) [.int a1, .int (-10000 : Int32), .int (8000 : Int32)] k_X10_within lk_X10_86 rfl rfl (Nat.le_of_ble_eq_true rfl) (by omega) (Nat.le_refl _) (Nat.le_refl _) d_X10_slope_14 ((sp_X10_within (d := d - 1) (by omega) hQ).mono (fun r w2 hr => ?_))
    obtain ⟨r3, rfl, rfl, hQ⟩ := hr
    refine x_if_ne (tgt := 23) d_X10_slope_17 (by decide) (fun c_17_4 => ?_) (fun c_17_4 => ?_)
    · have hQ := hQ.1 c_17_4
      refine x_iload_n 2 d_X10_slope_23 rfl rfl ?_
      refine x_aload_n 0 d_X10_slope_24 rfl rfl ?_
      refine x_getf 18 gf_X10_91 gM_0 rfl d_X10_slope_25 ?_
      refine x_icmp_le (tgt := 36) d_X10_slope_28 (by decide) (fun c_28_5 => ?_) (fun c_28_5 => ?_)
      · have hQ := hQ.1 c_28_5
        refine x_aload_n 0 d_X10_slope_36 rfl rfl ?_
        refine x_iload_n 1 d_X10_slope_37 rfl rfl ?_
        refine x_iload_n 2 d_X10_slope_38 rfl rfl ?_
        refine x_invV (rest := []) (d' := d - 1) (mc' := 0) (ms' := 0) [.int a0, .int a1] k_X10_toldSlope lk_X10_213 gM_0 rfl rfl rfl (Nat.le_of_ble_eq_true rfl) (by omega) (Nat.le_refl _) (Nat.le_refl _) d_X10_slope_39 ((sp_X10_toldSlope (d := d - 1) (by omega) hQ).mono (fun r w2 hr => ?_))
        obtain ⟨r6, rfl, rfl, hQ⟩ := hr
        refine x_l2i d_X10_slope_42 rfl ?_
        exact x_iret (retI d_X10_slope_43 rfl) ⟨_, rfl, rfl, hQ⟩
      · have hQ := hQ.2 c_28_5
        refine x_ldc (v := (-2000000004 : Int32)) kc_X10_125 d_X10_slope_31 ?_
        refine x_goto (tgt := 43) d_X10_slope_33 (by decide) ?_
        exact x_iret (retI d_X10_slope_43 rfl) ⟨_, rfl, rfl, hQ⟩
    · have hQ := hQ.2 c_17_4
      refine x_ldc (v := (-2000000001 : Int32)) kc_X10_90 d_X10_slope_20 ?_
      exact x_iret (retI d_X10_slope_22 rfl) ⟨_, rfl, rfl, hQ⟩
def wp_X10_rightAt (s : RT) (a0 : Int32) (a1 : Int32) (K : Int32 → RT → Prop) : Prop := wp_X10_isThree a0 (fun (r1 : Int32) => ((r1 = (0 : Int32) → K (-2000000001 : Int32) s) ∧ (¬ r1 = (0 : Int32) → wp_X10_within a1 (0 : Int32) (8000 : Int32) (fun (r3 : Int32) => ((¬ r3 = (0 : Int32) → ((a1 ≤ (s.2.2 18) → wp_X10_worksOut s a0 a1 (fun (r6 : Int64) (s7 : RT) => K (r6.toInt32) s7)) ∧ (¬ a1 ≤ (s.2.2 18) → K (-2000000004 : Int32) s))) ∧ (r3 = (0 : Int32) → K (-2000000001 : Int32) s))))))
set_option maxHeartbeats 4000000 in
theorem sp_X10_rightAt {G : GX} {l : Launch} {d : Nat} {w : HW} {a : Nat} {s : RT} {a0 : Int32} {a1 : Int32} {K : Int32 → RT → Prop} (hd : 5 ≤ d) (hQ : wp_X10_rightAt s a0 a1 K) : Sp G l m_X10_rightAt d 0 0 [.ref a, .int a0, .int a1] (put w a 22 (shM a s)) (fun r w2 => ∃ (r1 : Int32), ∃ (z0 : RT), r = some (.int r1) ∧ w2 = put w a 22 (shM a z0) ∧ K r1 z0) := by
  refine Sp.ofX k_X10_rightAt.1.1 (Nat.le_of_ble_eq_true rfl) ?_
  refine X.lv (lv2 := [(0, .ref a), (1, .int a0), (2, .int a1)]) rfl ?_
  refine x_iload_n 1 d_X10_rightAt_0 rfl rfl ?_
  refine x_invS (rest := []) (d' := d - 1) (mc' := 0) (ms' := 0) [.int a0] k_X10_isThree lk_X10_136 rfl rfl (Nat.le_of_ble_eq_true rfl) (by omega) (Nat.le_refl _) (Nat.le_refl _) d_X10_rightAt_1 ((sp_X10_isThree (d := d - 1) (by omega) hQ).mono (fun r w2 hr => ?_))
  obtain ⟨r1, rfl, rfl, hQ⟩ := hr
  refine x_if_eq (tgt := 18) d_X10_rightAt_4 (by decide) (fun c_4_2 => ?_) (fun c_4_2 => ?_)
  · have hQ := hQ.1 c_4_2
    refine x_ldc (v := (-2000000001 : Int32)) kc_X10_90 d_X10_rightAt_18 ?_
    exact x_iret (retI d_X10_rightAt_20 rfl) ⟨_, _, rfl, rfl, hQ⟩
  · have hQ := hQ.2 c_4_2
    refine x_iload_n 2 d_X10_rightAt_7 rfl rfl ?_
    refine x_iconst (v := (0 : Int32)) d_X10_rightAt_8 (by decide) ?_
    refine x_sipush (v := (8000 : Int32)) d_X10_rightAt_9 (by decide) ?_
    refine x_invS (rest := []) (d' := d - 1) (mc' := 0) (ms' := 0) [.int a1, .int (0 : Int32), .int (8000 : Int32)] k_X10_within lk_X10_86 rfl rfl (Nat.le_of_ble_eq_true rfl) (by omega) (Nat.le_refl _) (Nat.le_refl _) d_X10_rightAt_12 ((sp_X10_within (d := d - 1) (by omega) hQ).mono (fun r w2 hr => ?_))
    obtain ⟨r3, rfl, rfl, hQ⟩ := hr
    refine x_if_ne (tgt := 21) d_X10_rightAt_15 (by decide) (fun c_15_4 => ?_) (fun c_15_4 => ?_)
    · have hQ := hQ.1 c_15_4
      refine x_iload_n 2 d_X10_rightAt_21 rfl rfl ?_
      refine x_aload_n 0 d_X10_rightAt_22 rfl rfl ?_
      refine x_getf 18 gf_X10_91 gM_0 rfl d_X10_rightAt_23 ?_
      refine x_icmp_le (tgt := 34) d_X10_rightAt_26 (by decide) (fun c_26_5 => ?_) (fun c_26_5 => ?_)
      · have hQ := hQ.1 c_26_5
        refine x_aload_n 0 d_X10_rightAt_34 rfl rfl ?_
        refine x_iload_n 1 d_X10_rightAt_35 rfl rfl ?_
        refine x_iload_n 2 d_X10_rightAt_36 rfl rfl ?_
        refine x_invV (rest := []) (d' := d - 1) (mc' := 0) (ms' := 0) [.int a0, .int a1] k_X10_worksOut lk_X10_277 gM_0 rfl rfl rfl (Nat.le_of_ble_eq_true rfl) (by omega) (Nat.le_refl _) (Nat.le_refl _) d_X10_rightAt_37 ((sp_X10_worksOut (d := d - 1) (by omega) hQ).mono (fun r w2 hr => ?_))
        obtain ⟨r6, s7, rfl, rfl, hQ⟩ := hr
        refine x_l2i d_X10_rightAt_40 rfl ?_
        exact x_iret (retI d_X10_rightAt_41 rfl) ⟨_, _, rfl, rfl, hQ⟩
      · have hQ := hQ.2 c_26_5
        refine x_ldc (v := (-2000000004 : Int32)) kc_X10_125 d_X10_rightAt_29 ?_
        refine x_goto (tgt := 41) d_X10_rightAt_31 (by decide) ?_
        exact x_iret (retI d_X10_rightAt_41 rfl) ⟨_, _, rfl, rfl, hQ⟩
    · have hQ := hQ.2 c_15_4
      refine x_ldc (v := (-2000000001 : Int32)) kc_X10_90 d_X10_rightAt_18 ?_
      exact x_iret (retI d_X10_rightAt_20 rfl) ⟨_, _, rfl, rfl, hQ⟩
def wp_X10_step (s : RT) (a0 : Int32) (a1 : Int32) (K : Int32 → Prop) : Prop := ((a0 < (0 : Int32) → K (-2000000001 : Int32)) ∧ (¬ a0 < (0 : Int32) → wp_X10_within a1 (0 : Int32) (5 : Int32) (fun (r2 : Int32) => ((¬ r2 = (0 : Int32) → ((a0 < (s.2.2 17) → ((¬ a1 = (0 : Int32) → ((¬ a1 = (1 : Int32) → ((¬ a1 = (5 : Int32) → vp_in ((((3 : Int32) * a0) + a1) - (2 : Int32)) 3300 ∧ K ((s.2.1 13 ((((3 : Int32) * a0) + a1) - (2 : Int32)).toNatClampNeg).toInt32)) ∧ (a1 = (5 : Int32) → vp_in a0 1100 ∧ K (s.1 11 a0.toNatClampNeg)))) ∧ (a1 = (1 : Int32) → vp_in a0 1100 ∧ K (s.1 10 a0.toNatClampNeg)))) ∧ (a1 = (0 : Int32) → vp_in a0 1100 ∧ K (s.1 9 a0.toNatClampNeg)))) ∧ (¬ a0 < (s.2.2 17) → K (-2000000004 : Int32)))) ∧ (r2 = (0 : Int32) → K (-2000000001 : Int32))))))
set_option maxHeartbeats 4000000 in
theorem sp_X10_step {G : GX} {l : Launch} {d : Nat} {w : HW} {a : Nat} {s : RT} {a0 : Int32} {a1 : Int32} {K : Int32 → Prop} (hd : 1 ≤ d) (hQ : wp_X10_step s a0 a1 K) : Sp G l m_X10_step d 0 0 [.ref a, .int a0, .int a1] (put w a 22 (shM a s)) (fun r w2 => ∃ (r1 : Int32), r = some (.int r1) ∧ w2 = put w a 22 (shM a s) ∧ K r1) := by
  refine Sp.ofX k_X10_step.1.1 (Nat.le_of_ble_eq_true rfl) ?_
  refine X.lv (lv2 := [(0, .ref a), (1, .int a0), (2, .int a1)]) rfl ?_
  refine x_iload_n 1 d_X10_step_0 rfl rfl ?_
  refine x_if_lt (tgt := 13) d_X10_step_1 (by decide) (fun c_1_1 => ?_) (fun c_1_1 => ?_)
  · have hQ := hQ.1 c_1_1
    refine x_ldc (v := (-2000000001 : Int32)) kc_X10_90 d_X10_step_13 ?_
    exact x_iret (retI d_X10_step_15 rfl) ⟨_, rfl, rfl, hQ⟩
  · have hQ := hQ.2 c_1_1
    refine x_iload_n 2 d_X10_step_4 rfl rfl ?_
    refine x_iconst (v := (0 : Int32)) d_X10_step_5 (by decide) ?_
    refine x_iconst (v := (5 : Int32)) d_X10_step_6 (by decide) ?_
    refine x_invS (rest := []) (d' := d - 1) (mc' := 0) (ms' := 0) [.int a1, .int (0 : Int32), .int (5 : Int32)] k_X10_within lk_X10_86 rfl rfl (Nat.le_of_ble_eq_true rfl) (by omega) (Nat.le_refl _) (Nat.le_refl _) d_X10_step_7 ((sp_X10_within (d := d - 1) (by omega) hQ).mono (fun r w2 hr => ?_))
    obtain ⟨r2, rfl, rfl, hQ⟩ := hr
    refine x_if_ne (tgt := 16) d_X10_step_10 (by decide) (fun c_10_3 => ?_) (fun c_10_3 => ?_)
    · have hQ := hQ.1 c_10_3
      refine x_iload_n 1 d_X10_step_16 rfl rfl ?_
      refine x_aload_n 0 d_X10_step_17 rfl rfl ?_
      refine x_getf 17 gf_X10_178 gM_0 rfl d_X10_step_18 ?_
      refine x_icmp_lt (tgt := 27) d_X10_step_21 (by decide) (fun c_21_4 => ?_) (fun c_21_4 => ?_)
      · have hQ := hQ.1 c_21_4
        refine x_iload_n 2 d_X10_step_27 rfl rfl ?_
        refine x_if_ne (tgt := 40) d_X10_step_28 (by decide) (fun c_28_5 => ?_) (fun c_28_5 => ?_)
        · have hQ := hQ.1 c_28_5
          refine x_iload_n 2 d_X10_step_40 rfl rfl ?_
          refine x_iconst (v := (1 : Int32)) d_X10_step_41 (by decide) ?_
          refine x_icmp_ne (tgt := 54) d_X10_step_42 (by decide) (fun c_42_6 => ?_) (fun c_42_6 => ?_)
          · have hQ := hQ.1 c_42_6
            refine x_iload_n 2 d_X10_step_54 rfl rfl ?_
            refine x_iconst (v := (5 : Int32)) d_X10_step_55 (by decide) ?_
            refine x_icmp_ne (tgt := 68) d_X10_step_56 (by decide) (fun c_56_7 => ?_) (fun c_56_7 => ?_)
            · have hQ := hQ.1 c_56_7
              refine x_aload_n 0 d_X10_step_68 rfl rfl ?_
              refine x_getf 15 gf_X10_47 gM_0 rfl d_X10_step_69 ?_
              refine x_iconst (v := (3 : Int32)) d_X10_step_72 (by decide) ?_
              refine x_iload_n 1 d_X10_step_73 rfl rfl ?_
              refine x_imul d_X10_step_74 ?_
              refine x_iload_n 2 d_X10_step_75 rfl rfl ?_
              refine x_iadd d_X10_step_76 ?_
              refine x_iconst (v := (2 : Int32)) d_X10_step_77 (by decide) ?_
              refine x_isub d_X10_step_78 ?_
              have hN := hQ.1
              have hQ := hQ.2
              refine x_lald gM_13 hN d_X10_step_79 ?_
              refine x_l2i d_X10_step_80 rfl ?_
              exact x_iret (retI d_X10_step_81 rfl) ⟨_, rfl, rfl, hQ⟩
            · have hQ := hQ.2 c_56_7
              refine x_aload_n 0 d_X10_step_59 rfl rfl ?_
              refine x_getf 13 gf_X10_40 gM_0 rfl d_X10_step_60 ?_
              refine x_iload_n 1 d_X10_step_63 rfl rfl ?_
              have hN := hQ.1
              have hQ := hQ.2
              refine x_iald gM_11 hN d_X10_step_64 ?_
              refine x_goto (tgt := 81) d_X10_step_65 (by decide) ?_
              exact x_iret (retI d_X10_step_81 rfl) ⟨_, rfl, rfl, hQ⟩
          · have hQ := hQ.2 c_42_6
            refine x_aload_n 0 d_X10_step_45 rfl rfl ?_
            refine x_getf 12 gf_X10_37 gM_0 rfl d_X10_step_46 ?_
            refine x_iload_n 1 d_X10_step_49 rfl rfl ?_
            have hN := hQ.1
            have hQ := hQ.2
            refine x_iald gM_10 hN d_X10_step_50 ?_
            refine x_goto (tgt := 81) d_X10_step_51 (by decide) ?_
            exact x_iret (retI d_X10_step_81 rfl) ⟨_, rfl, rfl, hQ⟩
        · have hQ := hQ.2 c_28_5
          refine x_aload_n 0 d_X10_step_31 rfl rfl ?_
          refine x_getf 11 gf_X10_34 gM_0 rfl d_X10_step_32 ?_
          refine x_iload_n 1 d_X10_step_35 rfl rfl ?_
          have hN := hQ.1
          have hQ := hQ.2
          refine x_iald gM_9 hN d_X10_step_36 ?_
          refine x_goto (tgt := 81) d_X10_step_37 (by decide) ?_
          exact x_iret (retI d_X10_step_81 rfl) ⟨_, rfl, rfl, hQ⟩
      · have hQ := hQ.2 c_21_4
        refine x_ldc (v := (-2000000004 : Int32)) kc_X10_125 d_X10_step_24 ?_
        exact x_iret (retI d_X10_step_26 rfl) ⟨_, rfl, rfl, hQ⟩
    · have hQ := hQ.2 c_10_3
      refine x_ldc (v := (-2000000001 : Int32)) kc_X10_90 d_X10_step_13 ?_
      exact x_iret (retI d_X10_step_15 rfl) ⟨_, rfl, rfl, hQ⟩
def lp_X10_crossing_37 (s : RT) (a0 : Int32) (a1 : Int32) (a2 : Int32) (K : Int32 → Prop) : Nat → Int32 → Prop
  | 0, _ => False
  | n + 1, x_4 => (((s.2.2 18) < x_4 → K (-2000000004 : Int32)) ∧ (¬ (s.2.2 18) < x_4 → wp_X10_toldValue s a0 x_4 (fun (r8 : Int64) => (((lg_cmp r8 (a1.toInt64)) < (0 : Int32) → ∀ x10 : Int32, x10 = x_4 + (1 : Int32) → lp_X10_crossing_37 s a0 a1 a2 K n x10) ∧ (¬ (lg_cmp r8 (a1.toInt64)) < (0 : Int32) → wp_X10_toldValue s a0 (x_4 - (1 : Int32)) (fun (r11 : Int64) => (((0 : Int32) ≤ (lg_cmp r11 (a1.toInt64)) → ∀ x13 : Int32, x13 = x_4 + (1 : Int32) → lp_X10_crossing_37 s a0 a1 a2 K n x13) ∧ (¬ (0 : Int32) ≤ (lg_cmp r11 (a1.toInt64)) → K x_4))))))))
set_option maxHeartbeats 4000000 in
theorem jt_X10_crossing_37 {G : GX} {l : Launch} {d : Nat} {w : HW} {a : Nat} {s : RT} {a0 : Int32} {a1 : Int32} {a2 : Int32} {K : Int32 → Prop} (hd : 3 ≤ d) : ∀ (n : Nat) (x_4 : Int32), lp_X10_crossing_37 s a0 a1 a2 K n x_4 → X G l m_X10_crossing d 0 0 0 0 37 [(0, .ref a), (1, .int a0), (2, .int a1), (4, .int x_4)] [] (put w a 22 (shM a s)) (fun r w2 => ∃ (r1 : Int32), r = some (.int r1) ∧ w2 = put w a 22 (shM a s) ∧ K r1) := by
  intro n
  induction n with
  | zero =>
    intro x_4 hQ
    exact hQ.elim
  | succ n ih =>
    intro x_4 hQ
    refine x_iload 3 d_X10_crossing_37 rfl ?_
    refine x_aload_n 0 d_X10_crossing_39 rfl rfl ?_
    refine x_getf 18 gf_X10_91 gM_0 rfl d_X10_crossing_40 ?_
    refine x_icmp_gt (tgt := 83) d_X10_crossing_43 (by decide) (fun c_43_7 => ?_) (fun c_43_7 => ?_)
    · have hQ := hQ.1 c_43_7
      refine x_ldc (v := (-2000000004 : Int32)) kc_X10_125 d_X10_crossing_83 ?_
      exact x_iret (retI d_X10_crossing_85 rfl) ⟨_, rfl, rfl, hQ⟩
    · have hQ := hQ.2 c_43_7
      refine x_aload_n 0 d_X10_crossing_46 rfl rfl ?_
      refine x_iload_n 1 d_X10_crossing_47 rfl rfl ?_
      refine x_iload 3 d_X10_crossing_48 rfl ?_
      refine x_invV (rest := []) (d' := d - 1) (mc' := 0) (ms' := 0) [.int a0, .int x_4] k_X10_toldValue lk_X10_210 gM_0 rfl rfl rfl (Nat.le_of_ble_eq_true rfl) (by omega) (Nat.le_refl _) (Nat.le_refl _) d_X10_crossing_50 ((sp_X10_toldValue (d := d - 1) (by omega) hQ).mono (fun r w2 hr => ?_))
      obtain ⟨r8, rfl, rfl, hQ⟩ := hr
      refine x_iload_n 2 d_X10_crossing_53 rfl rfl ?_
      refine x_i2l d_X10_crossing_54 rfl ?_
      refine x_lcmp d_X10_crossing_55 ?_
      refine x_if_lt (tgt := 77) d_X10_crossing_56 (by decide) (fun c_56_9 => ?_) (fun c_56_9 => ?_)
      · have hQ := hQ.1 c_56_9
        obtain ⟨x10, e_x10⟩ : ∃ z : Int32, z = x_4 + (1 : Int32) := ⟨_, rfl⟩
        have hQ := hQ x10 e_x10
        refine x_iinc (v := x10) (lv2 := [(4, .int x10), (0, .ref a), (1, .int a0), (2, .int a1)]) 3 d_X10_crossing_77 rfl (by rw [e_x10]; rfl) (by decide) rfl ?_
        refine x_goto (tgt := 37) d_X10_crossing_80 (by decide) ?_
        refine x_sub [1, 2, 3, 0] (lv2 := [(0, .ref a), (1, .int a0), (2, .int a1), (4, .int x10)]) rfl ?_
        exact ih x10 hQ
      · have hQ := hQ.2 c_56_9
        refine x_aload_n 0 d_X10_crossing_59 rfl rfl ?_
        refine x_iload_n 1 d_X10_crossing_60 rfl rfl ?_
        refine x_iload 3 d_X10_crossing_61 rfl ?_
        refine x_iconst (v := (1 : Int32)) d_X10_crossing_63 (by decide) ?_
        refine x_isub d_X10_crossing_64 ?_
        refine x_invV (rest := []) (d' := d - 1) (mc' := 0) (ms' := 0) [.int a0, .int (x_4 - (1 : Int32))] k_X10_toldValue lk_X10_210 gM_0 rfl rfl rfl (Nat.le_of_ble_eq_true rfl) (by omega) (Nat.le_refl _) (Nat.le_refl _) d_X10_crossing_65 ((sp_X10_toldValue (d := d - 1) (by omega) hQ).mono (fun r w2 hr => ?_))
        obtain ⟨r11, rfl, rfl, hQ⟩ := hr
        refine x_iload_n 2 d_X10_crossing_68 rfl rfl ?_
        refine x_i2l d_X10_crossing_69 rfl ?_
        refine x_lcmp d_X10_crossing_70 ?_
        refine x_if_ge (tgt := 77) d_X10_crossing_71 (by decide) (fun c_71_12 => ?_) (fun c_71_12 => ?_)
        · have hQ := hQ.1 c_71_12
          obtain ⟨x13, e_x13⟩ : ∃ z : Int32, z = x_4 + (1 : Int32) := ⟨_, rfl⟩
          have hQ := hQ x13 e_x13
          refine x_iinc (v := x13) (lv2 := [(4, .int x13), (0, .ref a), (1, .int a0), (2, .int a1)]) 3 d_X10_crossing_77 rfl (by rw [e_x13]; rfl) (by decide) rfl ?_
          refine x_goto (tgt := 37) d_X10_crossing_80 (by decide) ?_
          refine x_sub [1, 2, 3, 0] (lv2 := [(0, .ref a), (1, .int a0), (2, .int a1), (4, .int x13)]) rfl ?_
          exact ih x13 hQ
        · have hQ := hQ.2 c_71_12
          refine x_iload 3 d_X10_crossing_74 rfl ?_
          exact x_iret (retI d_X10_crossing_76 rfl) ⟨_, rfl, rfl, hQ⟩
def wp_X10_crossing (s : RT) (a0 : Int32) (a1 : Int32) (a2 : Int32) (K : Int32 → Prop) : Prop := wp_X10_isThree a0 (fun (r1 : Int32) => ((r1 = (0 : Int32) → K (-2000000001 : Int32)) ∧ (¬ r1 = (0 : Int32) → wp_X10_within a1 (-1000000000 : Int32) (1000000000 : Int32) (fun (r3 : Int32) => ((r3 = (0 : Int32) → K (-2000000001 : Int32)) ∧ (¬ r3 = (0 : Int32) → wp_X10_within a2 (1 : Int32) (8000 : Int32) (fun (r5 : Int32) => ((¬ r5 = (0 : Int32) → ∃ m : Nat, lp_X10_crossing_37 s a0 a1 a2 K m a2) ∧ (r5 = (0 : Int32) → K (-2000000001 : Int32))))))))))
set_option maxHeartbeats 4000000 in
theorem sp_X10_crossing {G : GX} {l : Launch} {d : Nat} {w : HW} {a : Nat} {s : RT} {a0 : Int32} {a1 : Int32} {a2 : Int32} {K : Int32 → Prop} (hd : 3 ≤ d) (hQ : wp_X10_crossing s a0 a1 a2 K) : Sp G l m_X10_crossing d 0 0 [.ref a, .int a0, .int a1, .int a2] (put w a 22 (shM a s)) (fun r w2 => ∃ (r1 : Int32), r = some (.int r1) ∧ w2 = put w a 22 (shM a s) ∧ K r1) := by
  refine Sp.ofX k_X10_crossing.1.1 (Nat.le_of_ble_eq_true rfl) ?_
  refine X.lv (lv2 := [(0, .ref a), (1, .int a0), (2, .int a1), (3, .int a2)]) rfl ?_
  refine x_iload_n 1 d_X10_crossing_0 rfl rfl ?_
  refine x_invS (rest := []) (d' := d - 1) (mc' := 0) (ms' := 0) [.int a0] k_X10_isThree lk_X10_136 rfl rfl (Nat.le_of_ble_eq_true rfl) (by omega) (Nat.le_refl _) (Nat.le_refl _) d_X10_crossing_1 ((sp_X10_isThree (d := d - 1) (by omega) hQ).mono (fun r w2 hr => ?_))
  obtain ⟨r1, rfl, rfl, hQ⟩ := hr
  refine x_if_eq (tgt := 31) d_X10_crossing_4 (by decide) (fun c_4_2 => ?_) (fun c_4_2 => ?_)
  · have hQ := hQ.1 c_4_2
    refine x_ldc (v := (-2000000001 : Int32)) kc_X10_90 d_X10_crossing_31 ?_
    exact x_iret (retI d_X10_crossing_33 rfl) ⟨_, rfl, rfl, hQ⟩
  · have hQ := hQ.2 c_4_2
    refine x_iload_n 2 d_X10_crossing_7 rfl rfl ?_
    refine x_ldcw (v := (-1000000000 : Int32)) kc_X10_288 d_X10_crossing_8 ?_
    refine x_ldcw (v := (1000000000 : Int32)) kc_X10_289 d_X10_crossing_11 ?_
    refine x_invS (rest := []) (d' := d - 1) (mc' := 0) (ms' := 0) [.int a1, .int (-1000000000 : Int32), .int (1000000000 : Int32)] k_X10_within lk_X10_86 rfl rfl (Nat.le_of_ble_eq_true rfl) (by omega) (Nat.le_refl _) (Nat.le_refl _) d_X10_crossing_14 ((sp_X10_within (d := d - 1) (by omega) hQ).mono (fun r w2 hr => ?_))
    obtain ⟨r3, rfl, rfl, hQ⟩ := hr
    refine x_if_eq (tgt := 31) d_X10_crossing_17 (by decide) (fun c_17_4 => ?_) (fun c_17_4 => ?_)
    · have hQ := hQ.1 c_17_4
      refine x_ldc (v := (-2000000001 : Int32)) kc_X10_90 d_X10_crossing_31 ?_
      exact x_iret (retI d_X10_crossing_33 rfl) ⟨_, rfl, rfl, hQ⟩
    · have hQ := hQ.2 c_17_4
      refine x_iload_n 3 d_X10_crossing_20 rfl rfl ?_
      refine x_iconst (v := (1 : Int32)) d_X10_crossing_21 (by decide) ?_
      refine x_sipush (v := (8000 : Int32)) d_X10_crossing_22 (by decide) ?_
      refine x_invS (rest := []) (d' := d - 1) (mc' := 0) (ms' := 0) [.int a2, .int (1 : Int32), .int (8000 : Int32)] k_X10_within lk_X10_86 rfl rfl (Nat.le_of_ble_eq_true rfl) (by omega) (Nat.le_refl _) (Nat.le_refl _) d_X10_crossing_25 ((sp_X10_within (d := d - 1) (by omega) hQ).mono (fun r w2 hr => ?_))
      obtain ⟨r5, rfl, rfl, hQ⟩ := hr
      refine x_if_ne (tgt := 34) d_X10_crossing_28 (by decide) (fun c_28_6 => ?_) (fun c_28_6 => ?_)
      · have hQ := hQ.1 c_28_6
        refine x_iload_n 3 d_X10_crossing_34 rfl rfl ?_
        refine x_istore (lv2 := [(4, .int a2), (0, .ref a), (1, .int a0), (2, .int a1), (3, .int a2)]) d_X10_crossing_35 (by decide) rfl ?_
        refine x_sub [1, 2, 3, 0] (lv2 := [(0, .ref a), (1, .int a0), (2, .int a1), (4, .int a2)]) rfl ?_
        obtain ⟨m, hQ⟩ := hQ
        exact jt_X10_crossing_37 hd m a2 hQ
      · have hQ := hQ.2 c_28_6
        refine x_ldc (v := (-2000000001 : Int32)) kc_X10_90 d_X10_crossing_31 ?_
        exact x_iret (retI d_X10_crossing_33 rfl) ⟨_, rfl, rfl, hQ⟩
def lp_X10_greatest_61 (s : RT) (a0 : Int32) (a1 : Int32) (a2 : Int32) (a3 : Int32) (K : Int32 → Prop) : Nat → Int32 → Int32 → Prop
  | 0, _, _ => False
  | n + 1, x_5, x_6 => ((a2 < x_6 → ((¬ a3 = (0 : Int32) → K x_5) ∧ (a3 = (0 : Int32) → wp_X10_toldValue s a0 x_5 (fun (r13 : Int64) => K (r13.toInt32))))) ∧ (¬ a2 < x_6 → wp_X10_toldValue s a0 x_6 (fun (r14 : Int64) => wp_X10_toldValue s a0 x_5 (fun (r15 : Int64) => (((lg_cmp r14 r15) ≤ (0 : Int32) → ∀ x17 : Int32, x17 = x_6 + (1 : Int32) → lp_X10_greatest_61 s a0 a1 a2 a3 K n x_5 x17) ∧ (¬ (lg_cmp r14 r15) ≤ (0 : Int32) → ∀ x18 : Int32, x18 = x_6 + (1 : Int32) → lp_X10_greatest_61 s a0 a1 a2 a3 K n x_6 x18))))))
set_option maxHeartbeats 4000000 in
theorem jt_X10_greatest_61 {G : GX} {l : Launch} {d : Nat} {w : HW} {a : Nat} {s : RT} {a0 : Int32} {a1 : Int32} {a2 : Int32} {a3 : Int32} {K : Int32 → Prop} (hd : 3 ≤ d) : ∀ (n : Nat) (x_5 : Int32) (x_6 : Int32), lp_X10_greatest_61 s a0 a1 a2 a3 K n x_5 x_6 → X G l m_X10_greatest d 0 0 0 0 61 [(0, .ref a), (1, .int a0), (3, .int a2), (4, .int a3), (5, .int x_5), (6, .int x_6)] [] (put w a 22 (shM a s)) (fun r w2 => ∃ (r1 : Int32), r = some (.int r1) ∧ w2 = put w a 22 (shM a s) ∧ K r1) := by
  intro n
  induction n with
  | zero =>
    intro x_5 x_6 hQ
    exact hQ.elim
  | succ n ih =>
    intro x_5 x_6 hQ
    refine x_iload 5 d_X10_greatest_61 rfl ?_
    refine x_iload_n 2 d_X10_greatest_63 rfl rfl ?_
    refine x_icmp_gt (tgt := 100) d_X10_greatest_64 (by decide) (fun c_64_11 => ?_) (fun c_64_11 => ?_)
    · have hQ := hQ.1 c_64_11
      refine x_iload 3 d_X10_greatest_100 rfl ?_
      refine x_if_ne (tgt := 116) d_X10_greatest_102 (by decide) (fun c_102_12 => ?_) (fun c_102_12 => ?_)
      · have hQ := hQ.1 c_102_12
        refine x_iload 4 d_X10_greatest_116 rfl ?_
        exact x_iret (retI d_X10_greatest_118 rfl) ⟨_, rfl, rfl, hQ⟩
      · have hQ := hQ.2 c_102_12
        refine x_aload_n 0 d_X10_greatest_105 rfl rfl ?_
        refine x_iload_n 1 d_X10_greatest_106 rfl rfl ?_
        refine x_iload 4 d_X10_greatest_107 rfl ?_
        refine x_invV (rest := []) (d' := d - 1) (mc' := 0) (ms' := 0) [.int a0, .int x_5] k_X10_toldValue lk_X10_210 gM_0 rfl rfl rfl (Nat.le_of_ble_eq_true rfl) (by omega) (Nat.le_refl _) (Nat.le_refl _) d_X10_greatest_109 ((sp_X10_toldValue (d := d - 1) (by omega) hQ).mono (fun r w2 hr => ?_))
        obtain ⟨r13, rfl, rfl, hQ⟩ := hr
        refine x_l2i d_X10_greatest_112 rfl ?_
        refine x_goto (tgt := 118) d_X10_greatest_113 (by decide) ?_
        exact x_iret (retI d_X10_greatest_118 rfl) ⟨_, rfl, rfl, hQ⟩
    · have hQ := hQ.2 c_64_11
      refine x_aload_n 0 d_X10_greatest_67 rfl rfl ?_
      refine x_iload_n 1 d_X10_greatest_68 rfl rfl ?_
      refine x_iload 5 d_X10_greatest_69 rfl ?_
      refine x_invV (rest := []) (d' := d - 1) (mc' := 0) (ms' := 0) [.int a0, .int x_6] k_X10_toldValue lk_X10_210 gM_0 rfl rfl rfl (Nat.le_of_ble_eq_true rfl) (by omega) (Nat.le_refl _) (Nat.le_refl _) d_X10_greatest_71 ((sp_X10_toldValue (d := d - 1) (by omega) hQ).mono (fun r w2 hr => ?_))
      obtain ⟨r14, rfl, rfl, hQ⟩ := hr
      refine x_aload_n 0 d_X10_greatest_74 rfl rfl ?_
      refine x_iload_n 1 d_X10_greatest_75 rfl rfl ?_
      refine x_iload 4 d_X10_greatest_76 rfl ?_
      refine x_invV (rest := [.long r14]) (d' := d - 1) (mc' := 0) (ms' := 0) [.int a0, .int x_5] k_X10_toldValue lk_X10_210 gM_0 rfl rfl rfl (Nat.le_of_ble_eq_true rfl) (by omega) (Nat.le_refl _) (Nat.le_refl _) d_X10_greatest_78 ((sp_X10_toldValue (d := d - 1) (by omega) hQ).mono (fun r w2 hr => ?_))
      obtain ⟨r15, rfl, rfl, hQ⟩ := hr
      refine x_lcmp d_X10_greatest_81 ?_
      refine x_if_le (tgt := 90) d_X10_greatest_82 (by decide) (fun c_82_16 => ?_) (fun c_82_16 => ?_)
      · have hQ := hQ.1 c_82_16
        refine x_iload 4 d_X10_greatest_90 rfl ?_
        refine x_istore (lv2 := [(5, .int x_5), (0, .ref a), (1, .int a0), (3, .int a2), (4, .int a3), (6, .int x_6)]) d_X10_greatest_92 (by decide) rfl ?_
        obtain ⟨x17, e_x17⟩ : ∃ z : Int32, z = x_6 + (1 : Int32) := ⟨_, rfl⟩
        have hQ := hQ x17 e_x17
        refine x_iinc (v := x17) (lv2 := [(6, .int x17), (5, .int x_5), (0, .ref a), (1, .int a0), (3, .int a2), (4, .int a3)]) 5 d_X10_greatest_94 rfl (by rw [e_x17]; rfl) (by decide) rfl ?_
        refine x_goto (tgt := 61) d_X10_greatest_97 (by decide) ?_
        refine x_sub [2, 3, 4, 5, 1, 0] (lv2 := [(0, .ref a), (1, .int a0), (3, .int a2), (4, .int a3), (5, .int x_5), (6, .int x17)]) rfl ?_
        exact ih x_5 x17 hQ
      · have hQ := hQ.2 c_82_16
        refine x_iload 5 d_X10_greatest_85 rfl ?_
        refine x_goto (tgt := 92) d_X10_greatest_87 (by decide) ?_
        refine x_istore (lv2 := [(5, .int x_6), (0, .ref a), (1, .int a0), (3, .int a2), (4, .int a3), (6, .int x_6)]) d_X10_greatest_92 (by decide) rfl ?_
        obtain ⟨x18, e_x18⟩ : ∃ z : Int32, z = x_6 + (1 : Int32) := ⟨_, rfl⟩
        have hQ := hQ x18 e_x18
        refine x_iinc (v := x18) (lv2 := [(6, .int x18), (5, .int x_6), (0, .ref a), (1, .int a0), (3, .int a2), (4, .int a3)]) 5 d_X10_greatest_94 rfl (by rw [e_x18]; rfl) (by decide) rfl ?_
        refine x_goto (tgt := 61) d_X10_greatest_97 (by decide) ?_
        refine x_sub [2, 3, 4, 5, 1, 0] (lv2 := [(0, .ref a), (1, .int a0), (3, .int a2), (4, .int a3), (5, .int x_6), (6, .int x18)]) rfl ?_
        exact ih x_6 x18 hQ
def wp_X10_greatest (s : RT) (a0 : Int32) (a1 : Int32) (a2 : Int32) (a3 : Int32) (K : Int32 → Prop) : Prop := wp_X10_isThree a0 (fun (r1 : Int32) => ((r1 = (0 : Int32) → K (-2000000001 : Int32)) ∧ (¬ r1 = (0 : Int32) → wp_X10_within a1 (0 : Int32) (8000 : Int32) (fun (r3 : Int32) => ((r3 = (0 : Int32) → K (-2000000001 : Int32)) ∧ (¬ r3 = (0 : Int32) → wp_X10_within a2 a1 (8000 : Int32) (fun (r5 : Int32) => ((r5 = (0 : Int32) → K (-2000000001 : Int32)) ∧ (¬ r5 = (0 : Int32) → wp_X10_within a3 (0 : Int32) (1 : Int32) (fun (r7 : Int32) => ((¬ r7 = (0 : Int32) → ((a2 ≤ (s.2.2 18) → ∀ x10 : Int32, x10 = a1 + (1 : Int32) → ∃ m : Nat, lp_X10_greatest_61 s a0 a1 a2 a3 K m a1 x10) ∧ (¬ a2 ≤ (s.2.2 18) → K (-2000000004 : Int32)))) ∧ (r7 = (0 : Int32) → K (-2000000001 : Int32)))))))))))))
set_option maxHeartbeats 4000000 in
theorem sp_X10_greatest {G : GX} {l : Launch} {d : Nat} {w : HW} {a : Nat} {s : RT} {a0 : Int32} {a1 : Int32} {a2 : Int32} {a3 : Int32} {K : Int32 → Prop} (hd : 3 ≤ d) (hQ : wp_X10_greatest s a0 a1 a2 a3 K) : Sp G l m_X10_greatest d 0 0 [.ref a, .int a0, .int a1, .int a2, .int a3] (put w a 22 (shM a s)) (fun r w2 => ∃ (r1 : Int32), r = some (.int r1) ∧ w2 = put w a 22 (shM a s) ∧ K r1) := by
  refine Sp.ofX k_X10_greatest.1.1 (Nat.le_of_ble_eq_true rfl) ?_
  refine X.lv (lv2 := [(0, .ref a), (1, .int a0), (2, .int a1), (3, .int a2), (4, .int a3)]) rfl ?_
  refine x_iload_n 1 d_X10_greatest_0 rfl rfl ?_
  refine x_invS (rest := []) (d' := d - 1) (mc' := 0) (ms' := 0) [.int a0] k_X10_isThree lk_X10_136 rfl rfl (Nat.le_of_ble_eq_true rfl) (by omega) (Nat.le_refl _) (Nat.le_refl _) d_X10_greatest_1 ((sp_X10_isThree (d := d - 1) (by omega) hQ).mono (fun r w2 hr => ?_))
  obtain ⟨r1, rfl, rfl, hQ⟩ := hr
  refine x_if_eq (tgt := 39) d_X10_greatest_4 (by decide) (fun c_4_2 => ?_) (fun c_4_2 => ?_)
  · have hQ := hQ.1 c_4_2
    refine x_ldc (v := (-2000000001 : Int32)) kc_X10_90 d_X10_greatest_39 ?_
    exact x_iret (retI d_X10_greatest_41 rfl) ⟨_, rfl, rfl, hQ⟩
  · have hQ := hQ.2 c_4_2
    refine x_iload_n 2 d_X10_greatest_7 rfl rfl ?_
    refine x_iconst (v := (0 : Int32)) d_X10_greatest_8 (by decide) ?_
    refine x_sipush (v := (8000 : Int32)) d_X10_greatest_9 (by decide) ?_
    refine x_invS (rest := []) (d' := d - 1) (mc' := 0) (ms' := 0) [.int a1, .int (0 : Int32), .int (8000 : Int32)] k_X10_within lk_X10_86 rfl rfl (Nat.le_of_ble_eq_true rfl) (by omega) (Nat.le_refl _) (Nat.le_refl _) d_X10_greatest_12 ((sp_X10_within (d := d - 1) (by omega) hQ).mono (fun r w2 hr => ?_))
    obtain ⟨r3, rfl, rfl, hQ⟩ := hr
    refine x_if_eq (tgt := 39) d_X10_greatest_15 (by decide) (fun c_15_4 => ?_) (fun c_15_4 => ?_)
    · have hQ := hQ.1 c_15_4
      refine x_ldc (v := (-2000000001 : Int32)) kc_X10_90 d_X10_greatest_39 ?_
      exact x_iret (retI d_X10_greatest_41 rfl) ⟨_, rfl, rfl, hQ⟩
    · have hQ := hQ.2 c_15_4
      refine x_iload_n 3 d_X10_greatest_18 rfl rfl ?_
      refine x_iload_n 2 d_X10_greatest_19 rfl rfl ?_
      refine x_sipush (v := (8000 : Int32)) d_X10_greatest_20 (by decide) ?_
      refine x_invS (rest := []) (d' := d - 1) (mc' := 0) (ms' := 0) [.int a2, .int a1, .int (8000 : Int32)] k_X10_within lk_X10_86 rfl rfl (Nat.le_of_ble_eq_true rfl) (by omega) (Nat.le_refl _) (Nat.le_refl _) d_X10_greatest_23 ((sp_X10_within (d := d - 1) (by omega) hQ).mono (fun r w2 hr => ?_))
      obtain ⟨r5, rfl, rfl, hQ⟩ := hr
      refine x_if_eq (tgt := 39) d_X10_greatest_26 (by decide) (fun c_26_6 => ?_) (fun c_26_6 => ?_)
      · have hQ := hQ.1 c_26_6
        refine x_ldc (v := (-2000000001 : Int32)) kc_X10_90 d_X10_greatest_39 ?_
        exact x_iret (retI d_X10_greatest_41 rfl) ⟨_, rfl, rfl, hQ⟩
      · have hQ := hQ.2 c_26_6
        refine x_iload 4 d_X10_greatest_29 rfl ?_
        refine x_iconst (v := (0 : Int32)) d_X10_greatest_31 (by decide) ?_
        refine x_iconst (v := (1 : Int32)) d_X10_greatest_32 (by decide) ?_
        refine x_invS (rest := []) (d' := d - 1) (mc' := 0) (ms' := 0) [.int a3, .int (0 : Int32), .int (1 : Int32)] k_X10_within lk_X10_86 rfl rfl (Nat.le_of_ble_eq_true rfl) (by omega) (Nat.le_refl _) (Nat.le_refl _) d_X10_greatest_33 ((sp_X10_within (d := d - 1) (by omega) hQ).mono (fun r w2 hr => ?_))
        obtain ⟨r7, rfl, rfl, hQ⟩ := hr
        refine x_if_ne (tgt := 42) d_X10_greatest_36 (by decide) (fun c_36_8 => ?_) (fun c_36_8 => ?_)
        · have hQ := hQ.1 c_36_8
          refine x_iload_n 3 d_X10_greatest_42 rfl rfl ?_
          refine x_aload_n 0 d_X10_greatest_43 rfl rfl ?_
          refine x_getf 18 gf_X10_91 gM_0 rfl d_X10_greatest_44 ?_
          refine x_icmp_le (tgt := 53) d_X10_greatest_47 (by decide) (fun c_47_9 => ?_) (fun c_47_9 => ?_)
          · have hQ := hQ.1 c_47_9
            refine x_iload_n 2 d_X10_greatest_53 rfl rfl ?_
            refine x_istore (lv2 := [(5, .int a1), (0, .ref a), (1, .int a0), (2, .int a1), (3, .int a2), (4, .int a3)]) d_X10_greatest_54 (by decide) rfl ?_
            refine x_iload_n 3 d_X10_greatest_56 rfl rfl ?_
            refine x_iconst (v := (1 : Int32)) d_X10_greatest_57 (by decide) ?_
            refine x_iadd d_X10_greatest_58 ?_
            refine x_topi (fun x10 e_x10 => ?_)
            have hQ := hQ x10 e_x10
            refine x_istore (lv2 := [(6, .int x10), (5, .int a1), (0, .ref a), (1, .int a0), (2, .int a1), (3, .int a2), (4, .int a3)]) d_X10_greatest_59 (by decide) rfl ?_
            refine x_sub [2, 3, 5, 6, 1, 0] (lv2 := [(0, .ref a), (1, .int a0), (3, .int a2), (4, .int a3), (5, .int a1), (6, .int x10)]) rfl ?_
            obtain ⟨m, hQ⟩ := hQ
            exact jt_X10_greatest_61 hd m a1 x10 hQ
          · have hQ := hQ.2 c_47_9
            refine x_ldc (v := (-2000000004 : Int32)) kc_X10_125 d_X10_greatest_50 ?_
            exact x_iret (retI d_X10_greatest_52 rfl) ⟨_, rfl, rfl, hQ⟩
        · have hQ := hQ.2 c_36_8
          refine x_ldc (v := (-2000000001 : Int32)) kc_X10_90 d_X10_greatest_39 ?_
          exact x_iret (retI d_X10_greatest_41 rfl) ⟨_, rfl, rfl, hQ⟩
def jp_X10_differs_122 (a0 : Int32) (K : Int32 → RT → Prop) (k_84 : Int32 → Int32 → Int64 → Int32 → RT → Prop) (x_2 : Int32) (x_3 : Int32) (x_4 : Int64) (x_6 : Int32) (t_0 : Int64) (y_0 : RT) : Prop := (((lg_cmp t_0 x_4) ≤ (0 : Int32) → ∀ x18 : Int32, x18 = x_6 + (1 : Int32) → k_84 x_2 x_3 x_4 x18 y_0) ∧ (¬ (lg_cmp t_0 x_4) ≤ (0 : Int32) → ∀ x19 : Int32, x19 = x_6 + (1 : Int32) → k_84 x_2 x_3 t_0 x19 y_0))
set_option maxHeartbeats 4000000 in
theorem jt_X10_differs_122 {G : GX} {l : Launch} {d : Nat} {w : HW} {a : Nat} {a0 : Int32} {K : Int32 → RT → Prop} {k_84 : Int32 → Int32 → Int64 → Int32 → RT → Prop} (hd : 9 ≤ d) (hk_84 : ∀ (x_2 : Int32) (x_3 : Int32) (x_4 : Int64) (x_6 : Int32) (y_0 : RT), k_84 x_2 x_3 x_4 x_6 y_0 → X G l m_X10_differs d 0 0 0 0 84 [(0, .ref a), (2, .int x_2), (3, .int x_3), (4, .long x_4), (6, .int x_6)] [] (put w a 22 (shM a y_0)) (fun r w2 => ∃ (r1 : Int32), ∃ (z0 : RT), r = some (.int r1) ∧ w2 = put w a 22 (shM a z0) ∧ K r1 z0)) (x_2 : Int32) (x_3 : Int32) (x_4 : Int64) (x_6 : Int32) (t_0 : Int64) (y_0 : RT) (hQ : jp_X10_differs_122 a0 K k_84 x_2 x_3 x_4 x_6 t_0 y_0) : X G l m_X10_differs d 0 0 0 0 122 [(0, .ref a), (2, .int x_2), (3, .int x_3), (4, .long x_4), (6, .int x_6)] [.long t_0] (put w a 22 (shM a y_0)) (fun r w2 => ∃ (r1 : Int32), ∃ (z0 : RT), r = some (.int r1) ∧ w2 = put w a 22 (shM a z0) ∧ K r1 z0) := by
  refine x_lstore (lv2 := [(7, .long t_0), (0, .ref a), (2, .int x_2), (3, .int x_3), (4, .long x_4), (6, .int x_6)]) d_X10_differs_122 (by decide) rfl ?_
  refine x_lload 0 d_X10_differs_124 rfl ?_
  refine x_lload 4 d_X10_differs_126 rfl ?_
  refine x_lcmp d_X10_differs_128 ?_
  refine x_if_le (tgt := 137) d_X10_differs_129 (by decide) (fun c_129_17 => ?_) (fun c_129_17 => ?_)
  · have hQ := hQ.1 c_129_17
    refine x_lload 4 d_X10_differs_137 rfl ?_
    refine x_lstore (lv2 := [(4, .long x_4), (7, .long t_0), (0, .ref a), (2, .int x_2), (3, .int x_3), (6, .int x_6)]) d_X10_differs_139 (by decide) rfl ?_
    obtain ⟨x18, e_x18⟩ : ∃ z : Int32, z = x_6 + (1 : Int32) := ⟨_, rfl⟩
    have hQ := hQ x18 e_x18
    refine x_iinc (v := x18) (lv2 := [(6, .int x18), (4, .long x_4), (7, .long t_0), (0, .ref a), (2, .int x_2), (3, .int x_3)]) 5 d_X10_differs_141 rfl (by rw [e_x18]; rfl) (by decide) rfl ?_
    refine x_goto (tgt := 84) d_X10_differs_144 (by decide) ?_
    refine x_sub [3, 4, 5, 1, 0] (lv2 := [(0, .ref a), (2, .int x_2), (3, .int x_3), (4, .long x_4), (6, .int x18)]) rfl ?_
    exact hk_84 x_2 x_3 x_4 x18 y_0 hQ
  · have hQ := hQ.2 c_129_17
    refine x_lload 0 d_X10_differs_132 rfl ?_
    refine x_goto (tgt := 139) d_X10_differs_134 (by decide) ?_
    refine x_lstore (lv2 := [(4, .long t_0), (7, .long t_0), (0, .ref a), (2, .int x_2), (3, .int x_3), (6, .int x_6)]) d_X10_differs_139 (by decide) rfl ?_
    obtain ⟨x19, e_x19⟩ : ∃ z : Int32, z = x_6 + (1 : Int32) := ⟨_, rfl⟩
    have hQ := hQ x19 e_x19
    refine x_iinc (v := x19) (lv2 := [(6, .int x19), (4, .long t_0), (7, .long t_0), (0, .ref a), (2, .int x_2), (3, .int x_3)]) 5 d_X10_differs_141 rfl (by rw [e_x19]; rfl) (by decide) rfl ?_
    refine x_goto (tgt := 84) d_X10_differs_144 (by decide) ?_
    refine x_sub [3, 4, 5, 1, 0] (lv2 := [(0, .ref a), (2, .int x_2), (3, .int x_3), (4, .long t_0), (6, .int x19)]) rfl ?_
    exact hk_84 x_2 x_3 t_0 x19 y_0 hQ
def lp_X10_differs_84 (a0 : Int32) (K : Int32 → RT → Prop) : Nat → Int32 → Int32 → Int64 → Int32 → RT → Prop
  | 0, _, _, _, _, _ => False
  | n + 1, x_2, x_3, x_4, x_6, y_0 => (((3 : Int32) ≤ x_6 → vp_in (0 : Int32) 812 ∧ ∀ s11 : RT, s11 = rI y_0 1 (upd (y_0.1 1) (0 : Int32).toNatClampNeg x_3) → wp_X10_solvesAll s11 (fun (s12 : RT) => wp_X10_held x_4 (fun (r13 : Int64) => K (r13.toInt32) s12))) ∧ (¬ (3 : Int32) ≤ x_6 → wp_X10_toldValue y_0 x_6 x_2 (fun (r14 : Int64) => vp_in x_6 3 ∧ ∀ x15 : Int64, x15 = r14 - (y_0.2.1 19 x_6.toNatClampNeg) → (((0 : Int32) ≤ (lg_cmp x15 (0 : Int64)) → jp_X10_differs_122 a0 K (fun v0 v1 v2 v3 v4 => lp_X10_differs_84 a0 K n v0 v1 v2 v3 v4) x_2 x_3 x_4 x_6 x15 y_0) ∧ (¬ (0 : Int32) ≤ (lg_cmp x15 (0 : Int64)) → jp_X10_differs_122 a0 K (fun v0 v1 v2 v3 v4 => lp_X10_differs_84 a0 K n v0 v1 v2 v3 v4) x_2 x_3 x_4 x_6 (-x15) y_0)))))
set_option maxHeartbeats 4000000 in
theorem jt_X10_differs_84 {G : GX} {l : Launch} {d : Nat} {w : HW} {a : Nat} {a0 : Int32} {K : Int32 → RT → Prop} (hd : 9 ≤ d) : ∀ (n : Nat) (x_2 : Int32) (x_3 : Int32) (x_4 : Int64) (x_6 : Int32) (y_0 : RT), lp_X10_differs_84 a0 K n x_2 x_3 x_4 x_6 y_0 → X G l m_X10_differs d 0 0 0 0 84 [(0, .ref a), (2, .int x_2), (3, .int x_3), (4, .long x_4), (6, .int x_6)] [] (put w a 22 (shM a y_0)) (fun r w2 => ∃ (r1 : Int32), ∃ (z0 : RT), r = some (.int r1) ∧ w2 = put w a 22 (shM a z0) ∧ K r1 z0) := by
  intro n
  induction n with
  | zero =>
    intro x_2 x_3 x_4 x_6 y_0 hQ
    exact hQ.elim
  | succ n ih =>
    intro x_2 x_3 x_4 x_6 y_0 hQ
    refine x_iload 4 d_X10_differs_84 rfl ?_
    refine x_iconst (v := (3 : Int32)) d_X10_differs_86 (by decide) ?_
    refine x_icmp_ge (tgt := 147) d_X10_differs_87 (by decide) (fun c_87_10 => ?_) (fun c_87_10 => ?_)
    · have hQ := hQ.1 c_87_10
      refine x_aload_n 0 d_X10_differs_147 rfl rfl ?_
      refine x_getf 0 gf_X10_7 gM_0 rfl d_X10_differs_148 ?_
      refine x_iconst (v := (0 : Int32)) d_X10_differs_151 (by decide) ?_
      refine x_iload_n 2 d_X10_differs_152 rfl rfl ?_
      have hN := hQ.1
      have hQ := hQ.2
      refine x_iast gM_1 hN d_X10_differs_153 ?_
      obtain ⟨s11, e_s11⟩ : ∃ z : RT, z = rI y_0 1 (upd (y_0.1 1) (0 : Int32).toNatClampNeg x_3) := ⟨_, rfl⟩
      have hQ := hQ s11 e_s11
      refine X.world (w2 := put w a 22 (shM a s11)) (by rw [e_s11]; exact sM_1) ?_
      refine x_aload_n 0 d_X10_differs_154 rfl rfl ?_
      refine x_invV (rest := []) (d' := d - 1) (mc' := 0) (ms' := 0) [] k_X10_solvesAll lk_X10_74 gM_0 rfl rfl rfl (Nat.le_of_ble_eq_true rfl) (by omega) (Nat.le_refl _) (Nat.le_refl _) d_X10_differs_155 ((sp_X10_solvesAll (d := d - 1) (by omega) hQ).mono (fun r w2 hr => ?_))
      obtain ⟨s12, rfl, rfl, hQ⟩ := hr
      refine x_lload 3 d_X10_differs_158 rfl ?_
      refine x_invS (rest := []) (d' := d - 1) (mc' := 0) (ms' := 0) [.long x_4] k_X10_held lk_X10_191 rfl rfl (Nat.le_of_ble_eq_true rfl) (by omega) (Nat.le_refl _) (Nat.le_refl _) d_X10_differs_160 ((sp_X10_held (d := d - 1) (by omega) hQ).mono (fun r w2 hr => ?_))
      obtain ⟨r13, rfl, rfl, hQ⟩ := hr
      refine x_l2i d_X10_differs_163 rfl ?_
      exact x_iret (retI d_X10_differs_164 rfl) ⟨_, _, rfl, rfl, hQ⟩
    · have hQ := hQ.2 c_87_10
      refine x_aload_n 0 d_X10_differs_90 rfl rfl ?_
      refine x_iload 4 d_X10_differs_91 rfl ?_
      refine x_iload_n 1 d_X10_differs_93 rfl rfl ?_
      refine x_invV (rest := []) (d' := d - 1) (mc' := 0) (ms' := 0) [.int x_6, .int x_2] k_X10_toldValue lk_X10_210 gM_0 rfl rfl rfl (Nat.le_of_ble_eq_true rfl) (by omega) (Nat.le_refl _) (Nat.le_refl _) d_X10_differs_94 ((sp_X10_toldValue (d := d - 1) (by omega) hQ).mono (fun r w2 hr => ?_))
      obtain ⟨r14, rfl, rfl, hQ⟩ := hr
      refine x_aload_n 0 d_X10_differs_97 rfl rfl ?_
      refine x_getf 26 gf_X10_65 gM_0 rfl d_X10_differs_98 ?_
      refine x_iload 4 d_X10_differs_101 rfl ?_
      have hN := hQ.1
      have hQ := hQ.2
      refine x_lald gM_19 hN d_X10_differs_103 ?_
      refine x_lsub d_X10_differs_104 ?_
      refine x_topl (fun x15 e_x15 => ?_)
      have hQ := hQ x15 e_x15
      refine x_lstore (lv2 := [(7, .long x15), (0, .ref a), (2, .int x_2), (3, .int x_3), (4, .long x_4), (6, .int x_6)]) d_X10_differs_105 (by decide) rfl ?_
      refine x_lload 0 d_X10_differs_107 rfl ?_
      refine x_lconst (v := (0 : Int64)) d_X10_differs_109 (by decide) ?_
      refine x_lcmp d_X10_differs_110 ?_
      refine x_if_ge (tgt := 120) d_X10_differs_111 (by decide) (fun c_111_16 => ?_) (fun c_111_16 => ?_)
      · have hQ := hQ.1 c_111_16
        refine x_lload 0 d_X10_differs_120 rfl ?_
        refine x_sub [1, 2, 3, 4, 5] (lv2 := [(0, .ref a), (2, .int x_2), (3, .int x_3), (4, .long x_4), (6, .int x_6)]) rfl ?_
        exact jt_X10_differs_122 hd ih x_2 x_3 x_4 x_6 x15 y_0 hQ
      · have hQ := hQ.2 c_111_16
        refine x_lload 0 d_X10_differs_114 rfl ?_
        refine x_lneg d_X10_differs_116 ?_
        refine x_goto (tgt := 122) d_X10_differs_117 (by decide) ?_
        refine x_sub [1, 2, 3, 4, 5] (lv2 := [(0, .ref a), (2, .int x_2), (3, .int x_3), (4, .long x_4), (6, .int x_6)]) rfl ?_
        exact jt_X10_differs_122 hd ih x_2 x_3 x_4 x_6 (-x15) y_0 hQ
def lp_X10_differs_30 (a0 : Int32) (K : Int32 → RT → Prop) : Nat → Int32 → Int32 → Int32 → RT → Prop
  | 0, _, _, _, _ => False
  | n + 1, x_2, x_3, x_4, y_0 => (((3 : Int32) ≤ x_4 → vp_in (0 : Int32) 812 ∧ ∀ s6 : RT, s6 = rI y_0 1 (upd (y_0.1 1) (0 : Int32).toNatClampNeg a0) → ∀ s7 : RT, s7 = rS s6 17 (0 : Int32) → ∀ s8 : RT, s8 = rS s7 18 (0 : Int32) → wp_X10_goesTo s8 x_2 (fun (s9 : RT) => ∃ m : Nat, lp_X10_differs_84 a0 K m x_2 x_3 (0 : Int64) (0 : Int32) s9)) ∧ (¬ (3 : Int32) ≤ x_4 → wp_X10_toldValue y_0 x_4 x_2 (fun (r20 : Int64) => vp_in x_4 3 ∧ ∀ s21 : RT, s21 = rL y_0 19 (vp_updL (y_0.2.1 19) x_4.toNatClampNeg r20) → ∀ x22 : Int32, x22 = x_4 + (1 : Int32) → lp_X10_differs_30 a0 K n x_2 x_3 x22 s21)))
set_option maxHeartbeats 4000000 in
theorem jt_X10_differs_30 {G : GX} {l : Launch} {d : Nat} {w : HW} {a : Nat} {a0 : Int32} {K : Int32 → RT → Prop} (hd : 9 ≤ d) : ∀ (n : Nat) (x_2 : Int32) (x_3 : Int32) (x_4 : Int32) (y_0 : RT), lp_X10_differs_30 a0 K n x_2 x_3 x_4 y_0 → X G l m_X10_differs d 0 0 0 0 30 [(0, .ref a), (1, .int a0), (2, .int x_2), (3, .int x_3), (4, .int x_4)] [] (put w a 22 (shM a y_0)) (fun r w2 => ∃ (r1 : Int32), ∃ (z0 : RT), r = some (.int r1) ∧ w2 = put w a 22 (shM a z0) ∧ K r1 z0) := by
  intro n
  induction n with
  | zero =>
    intro x_2 x_3 x_4 y_0 hQ
    exact hQ.elim
  | succ n ih =>
    intro x_2 x_3 x_4 y_0 hQ
    refine x_iload 4 d_X10_differs_30 rfl ?_
    refine x_iconst (v := (3 : Int32)) d_X10_differs_32 (by decide) ?_
    refine x_icmp_ge (tgt := 56) d_X10_differs_33 (by decide) (fun c_33_5 => ?_) (fun c_33_5 => ?_)
    · have hQ := hQ.1 c_33_5
      refine x_aload_n 0 d_X10_differs_56 rfl rfl ?_
      refine x_getf 0 gf_X10_7 gM_0 rfl d_X10_differs_57 ?_
      refine x_iconst (v := (0 : Int32)) d_X10_differs_60 (by decide) ?_
      refine x_iload_n 1 d_X10_differs_61 rfl rfl ?_
      have hN := hQ.1
      have hQ := hQ.2
      refine x_iast gM_1 hN d_X10_differs_62 ?_
      obtain ⟨s6, e_s6⟩ : ∃ z : RT, z = rI y_0 1 (upd (y_0.1 1) (0 : Int32).toNatClampNeg a0) := ⟨_, rfl⟩
      have hQ := hQ s6 e_s6
      refine X.world (w2 := put w a 22 (shM a s6)) (by rw [e_s6]; exact sM_1) ?_
      refine x_aload_n 0 d_X10_differs_63 rfl rfl ?_
      refine x_iconst (v := (0 : Int32)) d_X10_differs_64 (by decide) ?_
      refine x_putf 17 (.int) pf_X10_178 gM_0 rfl rfl (Nat.le_of_ble_eq_true rfl) d_X10_differs_65 ?_
      obtain ⟨s7, e_s7⟩ : ∃ z : RT, z = rS s6 17 (0 : Int32) := ⟨_, rfl⟩
      have hQ := hQ s7 e_s7
      refine X.world (w2 := put w a 22 (shM a s7)) (by rw [e_s7]; exact sM_0_17) ?_
      refine x_aload_n 0 d_X10_differs_68 rfl rfl ?_
      refine x_iconst (v := (0 : Int32)) d_X10_differs_69 (by decide) ?_
      refine x_putf 18 (.int) pf_X10_91 gM_0 rfl rfl (Nat.le_of_ble_eq_true rfl) d_X10_differs_70 ?_
      obtain ⟨s8, e_s8⟩ : ∃ z : RT, z = rS s7 18 (0 : Int32) := ⟨_, rfl⟩
      have hQ := hQ s8 e_s8
      refine X.world (w2 := put w a 22 (shM a s8)) (by rw [e_s8]; exact sM_0_18) ?_
      refine x_aload_n 0 d_X10_differs_73 rfl rfl ?_
      refine x_iload_n 2 d_X10_differs_74 rfl rfl ?_
      refine x_invV (rest := []) (d' := d - 1) (mc' := 0) (ms' := 0) [.int x_2] k_X10_goesTo lk_X10_268 gM_0 rfl rfl rfl (Nat.le_of_ble_eq_true rfl) (by omega) (Nat.le_refl _) (Nat.le_refl _) d_X10_differs_75 ((sp_X10_goesTo (d := d - 1) (by omega) hQ).mono (fun r w2 hr => ?_))
      obtain ⟨s9, rfl, rfl, hQ⟩ := hr
      refine x_lconst (v := (0 : Int64)) d_X10_differs_78 (by decide) ?_
      refine x_lstore (lv2 := [(4, .long (0 : Int64)), (0, .ref a), (1, .int a0), (2, .int x_2), (3, .int x_3)]) d_X10_differs_79 (by decide) rfl ?_
      refine x_iconst (v := (0 : Int32)) d_X10_differs_81 (by decide) ?_
      refine x_istore (lv2 := [(6, .int (0 : Int32)), (4, .long (0 : Int64)), (0, .ref a), (1, .int a0), (2, .int x_2), (3, .int x_3)]) d_X10_differs_82 (by decide) rfl ?_
      refine x_sub [2, 4, 5, 1, 0] (lv2 := [(0, .ref a), (2, .int x_2), (3, .int x_3), (4, .long (0 : Int64)), (6, .int (0 : Int32))]) rfl ?_
      obtain ⟨m, hQ⟩ := hQ
      exact jt_X10_differs_84 hd m x_2 x_3 (0 : Int64) (0 : Int32) s9 hQ
    · have hQ := hQ.2 c_33_5
      refine x_aload_n 0 d_X10_differs_36 rfl rfl ?_
      refine x_getf 26 gf_X10_65 gM_0 rfl d_X10_differs_37 ?_
      refine x_iload 4 d_X10_differs_40 rfl ?_
      refine x_aload_n 0 d_X10_differs_42 rfl rfl ?_
      refine x_iload 4 d_X10_differs_43 rfl ?_
      refine x_iload_n 2 d_X10_differs_45 rfl rfl ?_
      refine x_invV (rest := [.int x_4, .ref (a + 19)]) (d' := d - 1) (mc' := 0) (ms' := 0) [.int x_4, .int x_2] k_X10_toldValue lk_X10_210 gM_0 rfl rfl rfl (Nat.le_of_ble_eq_true rfl) (by omega) (Nat.le_refl _) (Nat.le_refl _) d_X10_differs_46 ((sp_X10_toldValue (d := d - 1) (by omega) hQ).mono (fun r w2 hr => ?_))
      obtain ⟨r20, rfl, rfl, hQ⟩ := hr
      have hN := hQ.1
      have hQ := hQ.2
      refine x_last gM_19 hN d_X10_differs_49 ?_
      obtain ⟨s21, e_s21⟩ : ∃ z : RT, z = rL y_0 19 (vp_updL (y_0.2.1 19) x_4.toNatClampNeg r20) := ⟨_, rfl⟩
      have hQ := hQ s21 e_s21
      refine X.world (w2 := put w a 22 (shM a s21)) (by rw [e_s21]; exact sM_19) ?_
      obtain ⟨x22, e_x22⟩ : ∃ z : Int32, z = x_4 + (1 : Int32) := ⟨_, rfl⟩
      have hQ := hQ x22 e_x22
      refine x_iinc (v := x22) (lv2 := [(4, .int x22), (0, .ref a), (1, .int a0), (2, .int x_2), (3, .int x_3)]) 4 d_X10_differs_50 rfl (by rw [e_x22]; rfl) (by decide) rfl ?_
      refine x_goto (tgt := 30) d_X10_differs_53 (by decide) ?_
      refine x_sub [1, 2, 3, 4, 0] (lv2 := [(0, .ref a), (1, .int a0), (2, .int x_2), (3, .int x_3), (4, .int x22)]) rfl ?_
      exact ih x_2 x_3 x22 s21 hQ
def wp_X10_differs (s : RT) (a0 : Int32) (K : Int32 → RT → Prop) : Prop := wp_X10_within a0 (20 : Int32) (500 : Int32) (fun (r1 : Int32) => ((¬ r1 = (0 : Int32) → ∀ x3 : Int32, x3 = (s.2.2 18) → vp_in (0 : Int32) 812 ∧ ∀ x4 : Int32, x4 = (s.1 1 (0 : Int32).toNatClampNeg) → ∃ m : Nat, lp_X10_differs_30 a0 K m x3 x4 (0 : Int32) s) ∧ (r1 = (0 : Int32) → K (-2000000001 : Int32) s)))
set_option maxHeartbeats 4000000 in
theorem sp_X10_differs {G : GX} {l : Launch} {d : Nat} {w : HW} {a : Nat} {s : RT} {a0 : Int32} {K : Int32 → RT → Prop} (hd : 9 ≤ d) (hQ : wp_X10_differs s a0 K) : Sp G l m_X10_differs d 0 0 [.ref a, .int a0] (put w a 22 (shM a s)) (fun r w2 => ∃ (r1 : Int32), ∃ (z0 : RT), r = some (.int r1) ∧ w2 = put w a 22 (shM a z0) ∧ K r1 z0) := by
  refine Sp.ofX k_X10_differs.1.1 (Nat.le_of_ble_eq_true rfl) ?_
  refine X.lv (lv2 := [(0, .ref a), (1, .int a0)]) rfl ?_
  refine x_iload_n 1 d_X10_differs_0 rfl rfl ?_
  refine x_bipush (v := (20 : Int32)) d_X10_differs_1 (by decide) ?_
  refine x_sipush (v := (500 : Int32)) d_X10_differs_3 (by decide) ?_
  refine x_invS (rest := []) (d' := d - 1) (mc' := 0) (ms' := 0) [.int a0, .int (20 : Int32), .int (500 : Int32)] k_X10_within lk_X10_86 rfl rfl (Nat.le_of_ble_eq_true rfl) (by omega) (Nat.le_refl _) (Nat.le_refl _) d_X10_differs_6 ((sp_X10_within (d := d - 1) (by omega) hQ).mono (fun r w2 hr => ?_))
  obtain ⟨r1, rfl, rfl, hQ⟩ := hr
  refine x_if_ne (tgt := 15) d_X10_differs_9 (by decide) (fun c_9_2 => ?_) (fun c_9_2 => ?_)
  · have hQ := hQ.1 c_9_2
    refine x_aload_n 0 d_X10_differs_15 rfl rfl ?_
    refine x_getf 18 gf_X10_91 gM_0 rfl d_X10_differs_16 ?_
    refine x_topi (fun x3 e_x3 => ?_)
    have hQ := hQ x3 e_x3
    refine x_istore_n (lv2 := [(2, .int x3), (0, .ref a), (1, .int a0)]) d_X10_differs_19 rfl (by decide) rfl ?_
    refine x_aload_n 1 d_X10_differs_20 rfl rfl ?_
    refine x_getf 0 gf_X10_7 gM_0 rfl d_X10_differs_21 ?_
    refine x_iconst (v := (0 : Int32)) d_X10_differs_24 (by decide) ?_
    have hN := hQ.1
    have hQ := hQ.2
    refine x_iald gM_1 hN d_X10_differs_25 ?_
    refine x_topi (fun x4 e_x4 => ?_)
    have hQ := hQ x4 e_x4
    refine x_istore_n (lv2 := [(3, .int x4), (2, .int x3), (0, .ref a), (1, .int a0)]) d_X10_differs_26 rfl (by decide) rfl ?_
    refine x_iconst (v := (0 : Int32)) d_X10_differs_27 (by decide) ?_
    refine x_istore (lv2 := [(4, .int (0 : Int32)), (3, .int x4), (2, .int x3), (0, .ref a), (1, .int a0)]) d_X10_differs_28 (by decide) rfl ?_
    refine x_sub [3, 4, 2, 1, 0] (lv2 := [(0, .ref a), (1, .int a0), (2, .int x3), (3, .int x4), (4, .int (0 : Int32))]) rfl ?_
    obtain ⟨m, hQ⟩ := hQ
    exact jt_X10_differs_30 hd m x3 x4 (0 : Int32) s hQ
  · have hQ := hQ.2 c_9_2
    refine x_ldc (v := (-2000000001 : Int32)) kc_X10_90 d_X10_differs_12 ?_
    exact x_iret (retI d_X10_differs_14 rfl) ⟨_, _, rfl, rfl, hQ⟩
def wp_X10_count (s : RT) (a0 : Int32) (K : Int32 → Prop) : Prop := wp_X10_within a0 (0 : Int32) (2 : Int32) (fun (r1 : Int32) => ((r1 = (0 : Int32) → wp_X10_within a0 (8 : Int32) (10 : Int32) (fun (r3 : Int32) => ((r3 = (0 : Int32) → wp_X10_within a0 (11 : Int32) (13 : Int32) (fun (r5 : Int32) => ((r5 = (0 : Int32) → ((a0 = (3 : Int32) → K (s.2.2 18)) ∧ (¬ a0 = (3 : Int32) → ((a0 = (4 : Int32) → K (s.2.2 17)) ∧ (¬ a0 = (4 : Int32) → ((a0 = (5 : Int32) → K (s.2.2 10)) ∧ (¬ a0 = (5 : Int32) → ((a0 = (6 : Int32) → K (s.2.2 6)) ∧ (¬ a0 = (6 : Int32) → ((a0 = (7 : Int32) → K (s.2.2 2)) ∧ (¬ a0 = (7 : Int32) → ((a0 = (14 : Int32) → wp_X10_used s (fun (r7 : Int32) => K r7)) ∧ (¬ a0 = (14 : Int32) → (K (-2000000001 : Int32))))))))))))))) ∧ (¬ r5 = (0 : Int32) → vp_in (((6 : Int32) + a0) - (11 : Int32)) 812 ∧ K (s.1 1 (((6 : Int32) + a0) - (11 : Int32)).toNatClampNeg))))) ∧ (¬ r3 = (0 : Int32) → wp_X10_points s (a0 - (8 : Int32)) (fun (r8 : Int32) => K r8))))) ∧ (¬ r1 = (0 : Int32) → vp_in a0 812 ∧ K (s.1 1 a0.toNatClampNeg))))
set_option maxHeartbeats 4000000 in
theorem sp_X10_count {G : GX} {l : Launch} {d : Nat} {w : HW} {a : Nat} {s : RT} {a0 : Int32} {K : Int32 → Prop} (hd : 3 ≤ d) (hQ : wp_X10_count s a0 K) : Sp G l m_X10_count d 0 0 [.ref a, .int a0] (put w a 22 (shM a s)) (fun r w2 => ∃ (r1 : Int32), r = some (.int r1) ∧ w2 = put w a 22 (shM a s) ∧ K r1) := by
  refine Sp.ofX k_X10_count.1.1 (Nat.le_of_ble_eq_true rfl) ?_
  refine X.lv (lv2 := [(0, .ref a), (1, .int a0)]) rfl ?_
  refine x_iload_n 1 d_X10_count_0 rfl rfl ?_
  refine x_iconst (v := (0 : Int32)) d_X10_count_1 (by decide) ?_
  refine x_iconst (v := (2 : Int32)) d_X10_count_2 (by decide) ?_
  refine x_invS (rest := []) (d' := d - 1) (mc' := 0) (ms' := 0) [.int a0, .int (0 : Int32), .int (2 : Int32)] k_X10_within lk_X10_86 rfl rfl (Nat.le_of_ble_eq_true rfl) (by omega) (Nat.le_refl _) (Nat.le_refl _) d_X10_count_3 ((sp_X10_within (d := d - 1) (by omega) hQ).mono (fun r w2 hr => ?_))
  obtain ⟨r1, rfl, rfl, hQ⟩ := hr
  refine x_if_eq (tgt := 16) d_X10_count_6 (by decide) (fun c_6_2 => ?_) (fun c_6_2 => ?_)
  · have hQ := hQ.1 c_6_2
    refine x_iload_n 1 d_X10_count_16 rfl rfl ?_
    refine x_bipush (v := (8 : Int32)) d_X10_count_17 (by decide) ?_
    refine x_bipush (v := (10 : Int32)) d_X10_count_19 (by decide) ?_
    refine x_invS (rest := []) (d' := d - 1) (mc' := 0) (ms' := 0) [.int a0, .int (8 : Int32), .int (10 : Int32)] k_X10_within lk_X10_86 rfl rfl (Nat.le_of_ble_eq_true rfl) (by omega) (Nat.le_refl _) (Nat.le_refl _) d_X10_count_21 ((sp_X10_within (d := d - 1) (by omega) hQ).mono (fun r w2 hr => ?_))
    obtain ⟨r3, rfl, rfl, hQ⟩ := hr
    refine x_if_eq (tgt := 36) d_X10_count_24 (by decide) (fun c_24_4 => ?_) (fun c_24_4 => ?_)
    · have hQ := hQ.1 c_24_4
      refine x_iload_n 1 d_X10_count_36 rfl rfl ?_
      refine x_bipush (v := (11 : Int32)) d_X10_count_37 (by decide) ?_
      refine x_bipush (v := (13 : Int32)) d_X10_count_39 (by decide) ?_
      refine x_invS (rest := []) (d' := d - 1) (mc' := 0) (ms' := 0) [.int a0, .int (11 : Int32), .int (13 : Int32)] k_X10_within lk_X10_86 rfl rfl (Nat.le_of_ble_eq_true rfl) (by omega) (Nat.le_refl _) (Nat.le_refl _) d_X10_count_41 ((sp_X10_within (d := d - 1) (by omega) hQ).mono (fun r w2 hr => ?_))
      obtain ⟨r5, rfl, rfl, hQ⟩ := hr
      refine x_if_eq (tgt := 60) d_X10_count_44 (by decide) (fun c_44_6 => ?_) (fun c_44_6 => ?_)
      · have hQ := hQ.1 c_44_6
        refine x_iload_n 1 d_X10_count_60 rfl rfl ?_
        by_cases c_61_3 : a0 = (3 : Int32)
        · have hQ := hQ.1 c_61_3
          refine x_tableIn (off := (63 : Int)) (tgt := 124) d_X10_count_61 (by rw [c_61_3]; decide) (by rw [c_61_3]; decide) (by rw [c_61_3]; rfl) (by decide) ?_
          refine x_aload_n 0 d_X10_count_124 rfl rfl ?_
          refine x_getf 18 gf_X10_91 gM_0 rfl d_X10_count_125 ?_
          exact x_iret (retI d_X10_count_128 rfl) ⟨_, rfl, rfl, hQ⟩
        · have hQ := hQ.2 c_61_3
          by_cases c_61_4 : a0 = (4 : Int32)
          · have hQ := hQ.1 c_61_4
            refine x_tableIn (off := (68 : Int)) (tgt := 129) d_X10_count_61 (by rw [c_61_4]; decide) (by rw [c_61_4]; decide) (by rw [c_61_4]; rfl) (by decide) ?_
            refine x_aload_n 0 d_X10_count_129 rfl rfl ?_
            refine x_getf 17 gf_X10_178 gM_0 rfl d_X10_count_130 ?_
            exact x_iret (retI d_X10_count_133 rfl) ⟨_, rfl, rfl, hQ⟩
          · have hQ := hQ.2 c_61_4
            by_cases c_61_5 : a0 = (5 : Int32)
            · have hQ := hQ.1 c_61_5
              refine x_tableIn (off := (73 : Int)) (tgt := 134) d_X10_count_61 (by rw [c_61_5]; decide) (by rw [c_61_5]; decide) (by rw [c_61_5]; rfl) (by decide) ?_
              refine x_aload_n 0 d_X10_count_134 rfl rfl ?_
              refine x_getf 10 gf_X10_156 gM_0 rfl d_X10_count_135 ?_
              exact x_iret (retI d_X10_count_138 rfl) ⟨_, rfl, rfl, hQ⟩
            · have hQ := hQ.2 c_61_5
              by_cases c_61_6 : a0 = (6 : Int32)
              · have hQ := hQ.1 c_61_6
                refine x_tableIn (off := (78 : Int)) (tgt := 139) d_X10_count_61 (by rw [c_61_6]; decide) (by rw [c_61_6]; decide) (by rw [c_61_6]; rfl) (by decide) ?_
                refine x_aload_n 0 d_X10_count_139 rfl rfl ?_
                refine x_getf 6 gf_X10_97 gM_0 rfl d_X10_count_140 ?_
                exact x_iret (retI d_X10_count_143 rfl) ⟨_, rfl, rfl, hQ⟩
              · have hQ := hQ.2 c_61_6
                by_cases c_61_7 : a0 = (7 : Int32)
                · have hQ := hQ.1 c_61_7
                  refine x_tableIn (off := (83 : Int)) (tgt := 144) d_X10_count_61 (by rw [c_61_7]; decide) (by rw [c_61_7]; decide) (by rw [c_61_7]; rfl) (by decide) ?_
                  refine x_aload_n 0 d_X10_count_144 rfl rfl ?_
                  refine x_getf 2 gf_X10_81 gM_0 rfl d_X10_count_145 ?_
                  exact x_iret (retI d_X10_count_148 rfl) ⟨_, rfl, rfl, hQ⟩
                · have hQ := hQ.2 c_61_7
                  by_cases c_61_14 : a0 = (14 : Int32)
                  · have hQ := hQ.1 c_61_14
                    refine x_tableIn (off := (88 : Int)) (tgt := 149) d_X10_count_61 (by rw [c_61_14]; decide) (by rw [c_61_14]; decide) (by rw [c_61_14]; rfl) (by decide) ?_
                    refine x_aload_n 0 d_X10_count_149 rfl rfl ?_
                    refine x_invV (rest := []) (d' := d - 1) (mc' := 0) (ms' := 0) [] k_X10_used lk_X10_162 gM_0 rfl rfl rfl (Nat.le_of_ble_eq_true rfl) (by omega) (Nat.le_refl _) (Nat.le_refl _) d_X10_count_150 ((sp_X10_used (d := d - 1) (by omega) hQ).mono (fun r w2 hr => ?_))
                    obtain ⟨r7, rfl, rfl, hQ⟩ := hr
                    exact x_iret (retI d_X10_count_153 rfl) ⟨_, rfl, rfl, hQ⟩
                  · have hQ := hQ.2 c_61_14
                    by_cases c_61_d8 : a0 = (8 : Int32)
                    · refine x_tableIn (off := (93 : Int)) (tgt := 154) d_X10_count_61 (by rw [c_61_d8]; decide) (by rw [c_61_d8]; decide) (by rw [c_61_d8]; rfl) (by decide) ?_
                      refine x_ldc (v := (-2000000001 : Int32)) kc_X10_90 d_X10_count_154 ?_
                      exact x_iret (retI d_X10_count_156 rfl) ⟨_, rfl, rfl, hQ⟩
                    · by_cases c_61_d9 : a0 = (9 : Int32)
                      · refine x_tableIn (off := (93 : Int)) (tgt := 154) d_X10_count_61 (by rw [c_61_d9]; decide) (by rw [c_61_d9]; decide) (by rw [c_61_d9]; rfl) (by decide) ?_
                        refine x_ldc (v := (-2000000001 : Int32)) kc_X10_90 d_X10_count_154 ?_
                        exact x_iret (retI d_X10_count_156 rfl) ⟨_, rfl, rfl, hQ⟩
                      · by_cases c_61_d10 : a0 = (10 : Int32)
                        · refine x_tableIn (off := (93 : Int)) (tgt := 154) d_X10_count_61 (by rw [c_61_d10]; decide) (by rw [c_61_d10]; decide) (by rw [c_61_d10]; rfl) (by decide) ?_
                          refine x_ldc (v := (-2000000001 : Int32)) kc_X10_90 d_X10_count_154 ?_
                          exact x_iret (retI d_X10_count_156 rfl) ⟨_, rfl, rfl, hQ⟩
                        · by_cases c_61_d11 : a0 = (11 : Int32)
                          · refine x_tableIn (off := (93 : Int)) (tgt := 154) d_X10_count_61 (by rw [c_61_d11]; decide) (by rw [c_61_d11]; decide) (by rw [c_61_d11]; rfl) (by decide) ?_
                            refine x_ldc (v := (-2000000001 : Int32)) kc_X10_90 d_X10_count_154 ?_
                            exact x_iret (retI d_X10_count_156 rfl) ⟨_, rfl, rfl, hQ⟩
                          · by_cases c_61_d12 : a0 = (12 : Int32)
                            · refine x_tableIn (off := (93 : Int)) (tgt := 154) d_X10_count_61 (by rw [c_61_d12]; decide) (by rw [c_61_d12]; decide) (by rw [c_61_d12]; rfl) (by decide) ?_
                              refine x_ldc (v := (-2000000001 : Int32)) kc_X10_90 d_X10_count_154 ?_
                              exact x_iret (retI d_X10_count_156 rfl) ⟨_, rfl, rfl, hQ⟩
                            · by_cases c_61_d13 : a0 = (13 : Int32)
                              · refine x_tableIn (off := (93 : Int)) (tgt := 154) d_X10_count_61 (by rw [c_61_d13]; decide) (by rw [c_61_d13]; decide) (by rw [c_61_d13]; rfl) (by decide) ?_
                                refine x_ldc (v := (-2000000001 : Int32)) kc_X10_90 d_X10_count_154 ?_
                                exact x_iret (retI d_X10_count_156 rfl) ⟨_, rfl, rfl, hQ⟩
                              · refine x_tableOut (tgt := 154) d_X10_count_61 (sw_out 3 14 a0 (fun v h1 h2 => by
                                    have h3 : v = 3 ∨ v = 4 ∨ v = 5 ∨ v = 6 ∨ v = 7 ∨ v = 8 ∨ v = 9 ∨ v = 10 ∨ v = 11 ∨ v = 12 ∨ v = 13 ∨ v = 14 := by omega
                                    rcases h3 with rfl | rfl | rfl | rfl | rfl | rfl | rfl | rfl | rfl | rfl | rfl | rfl <;> first | exact sw_ne c_61_3 (by decide) | exact sw_ne c_61_4 (by decide) | exact sw_ne c_61_5 (by decide) | exact sw_ne c_61_6 (by decide) | exact sw_ne c_61_7 (by decide) | exact sw_ne c_61_14 (by decide) | exact sw_ne c_61_d8 (by decide) | exact sw_ne c_61_d9 (by decide) | exact sw_ne c_61_d10 (by decide) | exact sw_ne c_61_d11 (by decide) | exact sw_ne c_61_d12 (by decide) | exact sw_ne c_61_d13 (by decide))) (by decide) ?_
                                refine x_ldc (v := (-2000000001 : Int32)) kc_X10_90 d_X10_count_154 ?_
                                exact x_iret (retI d_X10_count_156 rfl) ⟨_, rfl, rfl, hQ⟩
      · have hQ := hQ.2 c_44_6
        refine x_aload_n 0 d_X10_count_47 rfl rfl ?_
        refine x_getf 0 gf_X10_7 gM_0 rfl d_X10_count_48 ?_
        refine x_bipush (v := (6 : Int32)) d_X10_count_51 (by decide) ?_
        refine x_iload_n 1 d_X10_count_53 rfl rfl ?_
        refine x_iadd d_X10_count_54 ?_
        refine x_bipush (v := (11 : Int32)) d_X10_count_55 (by decide) ?_
        refine x_isub d_X10_count_57 ?_
        have hN := hQ.1
        have hQ := hQ.2
        refine x_iald gM_1 hN d_X10_count_58 ?_
        exact x_iret (retI d_X10_count_59 rfl) ⟨_, rfl, rfl, hQ⟩
    · have hQ := hQ.2 c_24_4
      refine x_aload_n 0 d_X10_count_27 rfl rfl ?_
      refine x_iload_n 1 d_X10_count_28 rfl rfl ?_
      refine x_bipush (v := (8 : Int32)) d_X10_count_29 (by decide) ?_
      refine x_isub d_X10_count_31 ?_
      refine x_invV (rest := []) (d' := d - 1) (mc' := 0) (ms' := 0) [.int (a0 - (8 : Int32))] k_X10_points lk_X10_144 gM_0 rfl rfl rfl (Nat.le_of_ble_eq_true rfl) (by omega) (Nat.le_refl _) (Nat.le_refl _) d_X10_count_32 ((sp_X10_points (d := d - 1) (by omega) hQ).mono (fun r w2 hr => ?_))
      obtain ⟨r8, rfl, rfl, hQ⟩ := hr
      exact x_iret (retI d_X10_count_35 rfl) ⟨_, rfl, rfl, hQ⟩
  · have hQ := hQ.2 c_6_2
    refine x_aload_n 0 d_X10_count_9 rfl rfl ?_
    refine x_getf 0 gf_X10_7 gM_0 rfl d_X10_count_10 ?_
    refine x_iload_n 1 d_X10_count_13 rfl rfl ?_
    have hN := hQ.1
    have hQ := hQ.2
    refine x_iald gM_1 hN d_X10_count_14 ?_
    exact x_iret (retI d_X10_count_15 rfl) ⟨_, rfl, rfl, hQ⟩
