def wp_X10_within (a0 : Int32) (a1 : Int32) (a2 : Int32) (K : Int32 → Prop) : Prop := ((a0 < a1 → K (0 : Int32)) ∧ (¬ a0 < a1 → ((a2 < a0 → K (0 : Int32)) ∧ (¬ a2 < a0 → K (1 : Int32)))))
set_option maxHeartbeats 4000000 in
theorem sp_X10_within {G : GX} {l : Launch} {d : Nat} {w : HW} {a0 : Int32} {a1 : Int32} {a2 : Int32} {K : Int32 → Prop} (hd : 0 ≤ d) (hQ : wp_X10_within a0 a1 a2 K) : Sp G l m_X10_within d 0 0 [.int a0, .int a1, .int a2] (w) (fun r w2 => ∃ (r1 : Int32), r = some (.int r1) ∧ w2 = w ∧ K r1) := by
  refine Sp.ofX k_X10_within.1.1 (Nat.le_of_ble_eq_true rfl) ?_
  refine X.lv (lv2 := [(0, .int a0), (1, .int a1), (2, .int a2)]) rfl ?_
  refine x_iload_n 0 d_X10_within_0 rfl rfl ?_
  refine x_iload_n 1 d_X10_within_1 rfl rfl ?_
  refine x_icmp_lt (tgt := 14) d_X10_within_2 (by decide) (fun c_2_1 => ?_) (fun c_2_1 => ?_)
  · have hQ := hQ.1 c_2_1
    refine x_iconst (v := (0 : Int32)) d_X10_within_14 (by decide) ?_
    exact x_iret (retB d_X10_within_15 rfl rfl) ⟨_, rfl, rfl, hQ⟩
  · have hQ := hQ.2 c_2_1
    refine x_iload_n 0 d_X10_within_5 rfl rfl ?_
    refine x_iload_n 2 d_X10_within_6 rfl rfl ?_
    refine x_icmp_gt (tgt := 14) d_X10_within_7 (by decide) (fun c_7_2 => ?_) (fun c_7_2 => ?_)
    · have hQ := hQ.1 c_7_2
      refine x_iconst (v := (0 : Int32)) d_X10_within_14 (by decide) ?_
      exact x_iret (retB d_X10_within_15 rfl rfl) ⟨_, rfl, rfl, hQ⟩
    · have hQ := hQ.2 c_7_2
      refine x_iconst (v := (1 : Int32)) d_X10_within_10 (by decide) ?_
      refine x_goto (tgt := 15) d_X10_within_11 (by decide) ?_
      exact x_iret (retB d_X10_within_15 rfl rfl) ⟨_, rfl, rfl, hQ⟩
def wp_X10_held (a0 : Int64) (K : Int64 → Prop) : Prop := (((0 : Int32) ≤ (lg_cmp a0 (-1000000000 : Int64)) → (((lg_cmp a0 (1000000000 : Int64)) ≤ (0 : Int32) → K a0) ∧ (¬ (lg_cmp a0 (1000000000 : Int64)) ≤ (0 : Int32) → K (1000000000 : Int64)))) ∧ (¬ (0 : Int32) ≤ (lg_cmp a0 (-1000000000 : Int64)) → K (-1000000000 : Int64)))
set_option maxHeartbeats 4000000 in
theorem sp_X10_held {G : GX} {l : Launch} {d : Nat} {w : HW} {a0 : Int64} {K : Int64 → Prop} (hd : 0 ≤ d) (hQ : wp_X10_held a0 K) : Sp G l m_X10_held d 0 0 [.long a0] (w) (fun r w2 => ∃ (r1 : Int64), r = some (.long r1) ∧ w2 = w ∧ K r1) := by
  refine Sp.ofX k_X10_held.1.1 (Nat.le_of_ble_eq_true rfl) ?_
  refine X.lv (lv2 := [(0, .long a0)]) rfl ?_
  refine x_lload_n 0 d_X10_held_0 rfl rfl ?_
  refine x_ldc2 (v := (-1000000000 : Int64)) kc_X10_77 d_X10_held_1 ?_
  refine x_lcmp d_X10_held_4 ?_
  refine x_if_ge (tgt := 14) d_X10_held_5 (by decide) (fun c_5_1 => ?_) (fun c_5_1 => ?_)
  · have hQ := hQ.1 c_5_1
    refine x_lload_n 0 d_X10_held_14 rfl rfl ?_
    refine x_ldc2 (v := (1000000000 : Int64)) kc_X10_79 d_X10_held_15 ?_
    refine x_lcmp d_X10_held_18 ?_
    refine x_if_le (tgt := 28) d_X10_held_19 (by decide) (fun c_19_2 => ?_) (fun c_19_2 => ?_)
    · have hQ := hQ.1 c_19_2
      refine x_lload_n 0 d_X10_held_28 rfl rfl ?_
      exact x_lret (retL d_X10_held_29 rfl) ⟨_, rfl, rfl, hQ⟩
    · have hQ := hQ.2 c_19_2
      refine x_ldc2 (v := (1000000000 : Int64)) kc_X10_79 d_X10_held_22 ?_
      refine x_goto (tgt := 29) d_X10_held_25 (by decide) ?_
      exact x_lret (retL d_X10_held_29 rfl) ⟨_, rfl, rfl, hQ⟩
  · have hQ := hQ.2 c_5_1
    refine x_ldc2 (v := (-1000000000 : Int64)) kc_X10_77 d_X10_held_8 ?_
    refine x_goto (tgt := 29) d_X10_held_11 (by decide) ?_
    exact x_lret (retL d_X10_held_29 rfl) ⟨_, rfl, rfl, hQ⟩
def lp_X10_saves_51 (K : RT → Prop) : Nat → Int32 → RT → Prop
  | 0, _, _ => False
  | n + 1, x_1, y_0 => (((812 : Int32) ≤ x_1 → ∀ s3 : RT, s3 = rS y_0 2 ((y_0.2.2 2) + (1 : Int32)) → K s3) ∧ (¬ (812 : Int32) ≤ x_1 → vp_in x_1 812 ∧ vp_in (((812 : Int32) * (y_0.2.2 2)) + x_1) 3248 ∧ ∀ s4 : RT, s4 = rI y_0 2 (upd (y_0.1 2) (((812 : Int32) * (y_0.2.2 2)) + x_1).toNatClampNeg (y_0.1 1 x_1.toNatClampNeg)) → ∀ x5 : Int32, x5 = x_1 + (1 : Int32) → lp_X10_saves_51  K n x5 s4))
set_option maxHeartbeats 4000000 in
theorem jt_X10_saves_51 {G : GX} {l : Launch} {d : Nat} {w : HW} {a : Nat} {K : RT → Prop} (hd : 0 ≤ d) : ∀ (n : Nat) (x_1 : Int32) (y_0 : RT), lp_X10_saves_51 K n x_1 y_0 → X G l m_X10_saves d 0 0 0 0 51 [(0, .ref a), (1, .int x_1)] [] (put w a 22 (shM a y_0)) (fun r w2 => ∃ (z0 : RT), r = none ∧ w2 = put w a 22 (shM a z0) ∧ K z0) := by
  intro n
  induction n with
  | zero =>
    intro x_1 y_0 hQ
    exact hQ.elim
  | succ n ih =>
    intro x_1 y_0 hQ
    refine x_iload_n 1 d_X10_saves_51 rfl rfl ?_
    refine x_sipush (v := (812 : Int32)) d_X10_saves_52 (by decide) ?_
    refine x_icmp_ge (tgt := 85) d_X10_saves_55 (by decide) (fun c_55_2 => ?_) (fun c_55_2 => ?_)
    · have hQ := hQ.1 c_55_2
      refine x_aload_n 0 d_X10_saves_85 rfl rfl ?_
      refine x_dup d_X10_saves_86 rfl ?_
      refine x_getf 2 gf_X10_81 gM_0 rfl d_X10_saves_87 ?_
      refine x_iconst (v := (1 : Int32)) d_X10_saves_90 (by decide) ?_
      refine x_iadd d_X10_saves_91 ?_
      refine x_putf 2 (.int) pf_X10_81 gM_0 rfl rfl (Nat.le_of_ble_eq_true rfl) d_X10_saves_92 ?_
      obtain ⟨s3, e_s3⟩ : ∃ z : RT, z = rS y_0 2 ((y_0.2.2 2) + (1 : Int32)) := ⟨_, rfl⟩
      have hQ := hQ s3 e_s3
      refine X.world (w2 := put w a 22 (shM a s3)) (by rw [e_s3]; exact sM_0_2) ?_
      exact x_vret (retV d_X10_saves_95 rfl) ⟨_, rfl, rfl, hQ⟩
    · have hQ := hQ.2 c_55_2
      refine x_aload_n 0 d_X10_saves_58 rfl rfl ?_
      refine x_getf 1 gf_X10_13 gM_0 rfl d_X10_saves_59 ?_
      refine x_sipush (v := (812 : Int32)) d_X10_saves_62 (by decide) ?_
      refine x_aload_n 0 d_X10_saves_65 rfl rfl ?_
      refine x_getf 2 gf_X10_81 gM_0 rfl d_X10_saves_66 ?_
      refine x_imul d_X10_saves_69 ?_
      refine x_iload_n 1 d_X10_saves_70 rfl rfl ?_
      refine x_iadd d_X10_saves_71 ?_
      refine x_aload_n 0 d_X10_saves_72 rfl rfl ?_
      refine x_getf 0 gf_X10_7 gM_0 rfl d_X10_saves_73 ?_
      refine x_iload_n 1 d_X10_saves_76 rfl rfl ?_
      have hN := hQ.1
      have hQ := hQ.2
      refine x_iald gM_1 hN d_X10_saves_77 ?_
      have hN := hQ.1
      have hQ := hQ.2
      refine x_iast gM_2 hN d_X10_saves_78 ?_
      obtain ⟨s4, e_s4⟩ : ∃ z : RT, z = rI y_0 2 (upd (y_0.1 2) (((812 : Int32) * (y_0.2.2 2)) + x_1).toNatClampNeg (y_0.1 1 x_1.toNatClampNeg)) := ⟨_, rfl⟩
      have hQ := hQ s4 e_s4
      refine X.world (w2 := put w a 22 (shM a s4)) (by rw [e_s4]; exact sM_2) ?_
      obtain ⟨x5, e_x5⟩ : ∃ z : Int32, z = x_1 + (1 : Int32) := ⟨_, rfl⟩
      have hQ := hQ x5 e_x5
      refine x_iinc (v := x5) (lv2 := [(1, .int x5), (0, .ref a)]) 1 d_X10_saves_79 rfl (by rw [e_x5]; rfl) (by decide) rfl ?_
      refine x_goto (tgt := 51) d_X10_saves_82 (by decide) ?_
      refine x_sub [1, 0] (lv2 := [(0, .ref a), (1, .int x5)]) rfl ?_
      exact ih x5 s4 hQ
def lp_X10_saves_10 (K : RT → Prop) : Nat → Int32 → RT → Prop
  | 0, _, _ => False
  | n + 1, x_1, y_0 => (((2436 : Int32) ≤ x_1 → ∀ s7 : RT, s7 = rS y_0 2 ((y_0.2.2 2) - (1 : Int32)) → ∃ m : Nat, lp_X10_saves_51  K m (0 : Int32) s7) ∧ (¬ (2436 : Int32) ≤ x_1 → vp_in (x_1 + (812 : Int32)) 3248 ∧ vp_in x_1 3248 ∧ ∀ s8 : RT, s8 = rI y_0 2 (upd (y_0.1 2) x_1.toNatClampNeg (y_0.1 2 (x_1 + (812 : Int32)).toNatClampNeg)) → ∀ x9 : Int32, x9 = x_1 + (1 : Int32) → lp_X10_saves_10  K n x9 s8))
set_option maxHeartbeats 4000000 in
theorem jt_X10_saves_10 {G : GX} {l : Launch} {d : Nat} {w : HW} {a : Nat} {K : RT → Prop} (hd : 0 ≤ d) : ∀ (n : Nat) (x_1 : Int32) (y_0 : RT), lp_X10_saves_10 K n x_1 y_0 → X G l m_X10_saves d 0 0 0 0 10 [(0, .ref a), (1, .int x_1)] [] (put w a 22 (shM a y_0)) (fun r w2 => ∃ (z0 : RT), r = none ∧ w2 = put w a 22 (shM a z0) ∧ K z0) := by
  intro n
  induction n with
  | zero =>
    intro x_1 y_0 hQ
    exact hQ.elim
  | succ n ih =>
    intro x_1 y_0 hQ
    refine x_iload_n 1 d_X10_saves_10 rfl rfl ?_
    refine x_sipush (v := (2436 : Int32)) d_X10_saves_11 (by decide) ?_
    refine x_icmp_ge (tgt := 39) d_X10_saves_14 (by decide) (fun c_14_6 => ?_) (fun c_14_6 => ?_)
    · have hQ := hQ.1 c_14_6
      refine x_aload_n 0 d_X10_saves_39 rfl rfl ?_
      refine x_dup d_X10_saves_40 rfl ?_
      refine x_getf 2 gf_X10_81 gM_0 rfl d_X10_saves_41 ?_
      refine x_iconst (v := (1 : Int32)) d_X10_saves_44 (by decide) ?_
      refine x_isub d_X10_saves_45 ?_
      refine x_putf 2 (.int) pf_X10_81 gM_0 rfl rfl (Nat.le_of_ble_eq_true rfl) d_X10_saves_46 ?_
      obtain ⟨s7, e_s7⟩ : ∃ z : RT, z = rS y_0 2 ((y_0.2.2 2) - (1 : Int32)) := ⟨_, rfl⟩
      have hQ := hQ s7 e_s7
      refine X.world (w2 := put w a 22 (shM a s7)) (by rw [e_s7]; exact sM_0_2) ?_
      refine x_iconst (v := (0 : Int32)) d_X10_saves_49 (by decide) ?_
      refine x_istore_n (lv2 := [(1, .int (0 : Int32)), (0, .ref a)]) d_X10_saves_50 rfl (by decide) rfl ?_
      refine x_sub [1, 0] (lv2 := [(0, .ref a), (1, .int (0 : Int32))]) rfl ?_
      obtain ⟨m, hQ⟩ := hQ
      exact jt_X10_saves_51 hd m (0 : Int32) s7 hQ
    · have hQ := hQ.2 c_14_6
      refine x_aload_n 0 d_X10_saves_17 rfl rfl ?_
      refine x_getf 1 gf_X10_13 gM_0 rfl d_X10_saves_18 ?_
      refine x_iload_n 1 d_X10_saves_21 rfl rfl ?_
      refine x_aload_n 0 d_X10_saves_22 rfl rfl ?_
      refine x_getf 1 gf_X10_13 gM_0 rfl d_X10_saves_23 ?_
      refine x_iload_n 1 d_X10_saves_26 rfl rfl ?_
      refine x_sipush (v := (812 : Int32)) d_X10_saves_27 (by decide) ?_
      refine x_iadd d_X10_saves_30 ?_
      have hN := hQ.1
      have hQ := hQ.2
      refine x_iald gM_2 hN d_X10_saves_31 ?_
      have hN := hQ.1
      have hQ := hQ.2
      refine x_iast gM_2 hN d_X10_saves_32 ?_
      obtain ⟨s8, e_s8⟩ : ∃ z : RT, z = rI y_0 2 (upd (y_0.1 2) x_1.toNatClampNeg (y_0.1 2 (x_1 + (812 : Int32)).toNatClampNeg)) := ⟨_, rfl⟩
      have hQ := hQ s8 e_s8
      refine X.world (w2 := put w a 22 (shM a s8)) (by rw [e_s8]; exact sM_2) ?_
      obtain ⟨x9, e_x9⟩ : ∃ z : Int32, z = x_1 + (1 : Int32) := ⟨_, rfl⟩
      have hQ := hQ x9 e_x9
      refine x_iinc (v := x9) (lv2 := [(1, .int x9), (0, .ref a)]) 1 d_X10_saves_33 rfl (by rw [e_x9]; rfl) (by decide) rfl ?_
      refine x_goto (tgt := 10) d_X10_saves_36 (by decide) ?_
      refine x_sub [1, 0] (lv2 := [(0, .ref a), (1, .int x9)]) rfl ?_
      exact ih x9 s8 hQ
def wp_X10_saves (s : RT) (K : RT → Prop) : Prop := ((¬ (s.2.2 2) = (4 : Int32) → ∃ m : Nat, lp_X10_saves_51  K m (0 : Int32) s) ∧ ((s.2.2 2) = (4 : Int32) → ∃ m : Nat, lp_X10_saves_10  K m (0 : Int32) s))
set_option maxHeartbeats 4000000 in
theorem sp_X10_saves {G : GX} {l : Launch} {d : Nat} {w : HW} {a : Nat} {s : RT} {K : RT → Prop} (hd : 0 ≤ d) (hQ : wp_X10_saves s K) : Sp G l m_X10_saves d 0 0 [.ref a] (put w a 22 (shM a s)) (fun r w2 => ∃ (z0 : RT), r = none ∧ w2 = put w a 22 (shM a z0) ∧ K z0) := by
  refine Sp.ofX k_X10_saves.1.1 (Nat.le_of_ble_eq_true rfl) ?_
  refine X.lv (lv2 := [(0, .ref a)]) rfl ?_
  refine x_aload_n 0 d_X10_saves_0 rfl rfl ?_
  refine x_getf 2 gf_X10_81 gM_0 rfl d_X10_saves_1 ?_
  refine x_iconst (v := (4 : Int32)) d_X10_saves_4 (by decide) ?_
  refine x_icmp_ne (tgt := 49) d_X10_saves_5 (by decide) (fun c_5_1 => ?_) (fun c_5_1 => ?_)
  · have hQ := hQ.1 c_5_1
    refine x_iconst (v := (0 : Int32)) d_X10_saves_49 (by decide) ?_
    refine x_istore_n (lv2 := [(1, .int (0 : Int32)), (0, .ref a)]) d_X10_saves_50 rfl (by decide) rfl ?_
    refine x_sub [1, 0] (lv2 := [(0, .ref a), (1, .int (0 : Int32))]) rfl ?_
    obtain ⟨m, hQ⟩ := hQ
    exact jt_X10_saves_51 hd m (0 : Int32) s hQ
  · have hQ := hQ.2 c_5_1
    refine x_iconst (v := (0 : Int32)) d_X10_saves_8 (by decide) ?_
    refine x_istore_n (lv2 := [(1, .int (0 : Int32)), (0, .ref a)]) d_X10_saves_9 rfl (by decide) rfl ?_
    refine x_sub [1, 0] (lv2 := [(0, .ref a), (1, .int (0 : Int32))]) rfl ?_
    obtain ⟨m, hQ⟩ := hQ
    exact jt_X10_saves_10 hd m (0 : Int32) s hQ
def wp_X10_letter (s : RT) (a0 : Int32) (K : Int32 → Prop) : Prop := (((s.2.2 6) ≤ a0 → K (0 : Int32)) ∧ (¬ (s.2.2 6) ≤ a0 → vp_in a0 80 ∧ K (s.1 5 a0.toNatClampNeg)))
set_option maxHeartbeats 4000000 in
theorem sp_X10_letter {G : GX} {l : Launch} {d : Nat} {w : HW} {a : Nat} {s : RT} {a0 : Int32} {K : Int32 → Prop} (hd : 0 ≤ d) (hQ : wp_X10_letter s a0 K) : Sp G l m_X10_letter d 0 0 [.ref a, .int a0] (put w a 22 (shM a s)) (fun r w2 => ∃ (r1 : Int32), r = some (.int r1) ∧ w2 = put w a 22 (shM a s) ∧ K r1) := by
  refine Sp.ofX k_X10_letter.1.1 (Nat.le_of_ble_eq_true rfl) ?_
  refine X.lv (lv2 := [(0, .ref a), (1, .int a0)]) rfl ?_
  refine x_iload_n 1 d_X10_letter_0 rfl rfl ?_
  refine x_aload_n 0 d_X10_letter_1 rfl rfl ?_
  refine x_getf 6 gf_X10_97 gM_0 rfl d_X10_letter_2 ?_
  refine x_icmp_ge (tgt := 17) d_X10_letter_5 (by decide) (fun c_5_1 => ?_) (fun c_5_1 => ?_)
  · have hQ := hQ.1 c_5_1
    refine x_iconst (v := (0 : Int32)) d_X10_letter_17 (by decide) ?_
    exact x_iret (retI d_X10_letter_18 rfl) ⟨_, rfl, rfl, hQ⟩
  · have hQ := hQ.2 c_5_1
    refine x_aload_n 0 d_X10_letter_8 rfl rfl ?_
    refine x_getf 5 gf_X10_22 gM_0 rfl d_X10_letter_9 ?_
    refine x_iload_n 1 d_X10_letter_12 rfl rfl ?_
    have hN := hQ.1
    have hQ := hQ.2
    refine x_iald gM_5 hN d_X10_letter_13 ?_
    refine x_goto (tgt := 18) d_X10_letter_14 (by decide) ?_
    exact x_iret (retI d_X10_letter_18 rfl) ⟨_, rfl, rfl, hQ⟩
def wp_X10_isDigit (a0 : Int32) (K : Int32 → Prop) : Prop := wp_X10_within a0 (48 : Int32) (57 : Int32) (fun (r1 : Int32) => (narrow .boolean (.int r1) = .int r1) ∧ K r1)
set_option maxHeartbeats 4000000 in
theorem sp_X10_isDigit {G : GX} {l : Launch} {d : Nat} {w : HW} {a0 : Int32} {K : Int32 → Prop} (hd : 1 ≤ d) (hQ : wp_X10_isDigit a0 K) : Sp G l m_X10_isDigit d 0 0 [.int a0] (w) (fun r w2 => ∃ (r1 : Int32), r = some (.int r1) ∧ w2 = w ∧ K r1) := by
  refine Sp.ofX k_X10_isDigit.1.1 (Nat.le_of_ble_eq_true rfl) ?_
  refine X.lv (lv2 := [(0, .int a0)]) rfl ?_
  refine x_iload_n 0 d_X10_isDigit_0 rfl rfl ?_
  refine x_bipush (v := (48 : Int32)) d_X10_isDigit_1 (by decide) ?_
  refine x_bipush (v := (57 : Int32)) d_X10_isDigit_3 (by decide) ?_
  refine x_invS (rest := []) (d' := d - 1) (mc' := 0) (ms' := 0) [.int a0, .int (48 : Int32), .int (57 : Int32)] k_X10_within lk_X10_86 rfl rfl (Nat.le_of_ble_eq_true rfl) (by omega) (Nat.le_refl _) (Nat.le_refl _) d_X10_isDigit_5 ((sp_X10_within (d := d - 1) (by omega) hQ).mono (fun r w2 hr => ?_))
  obtain ⟨r1, rfl, rfl, hQ⟩ := hr
  exact x_iret (retB d_X10_isDigit_8 rfl hQ.1) ⟨_, rfl, rfl, hQ.2⟩
def wp_X10_isName (a0 : Int32) (K : Int32 → Prop) : Prop := wp_X10_within a0 (120 : Int32) (122 : Int32) (fun (r1 : Int32) => (narrow .boolean (.int r1) = .int r1) ∧ K r1)
set_option maxHeartbeats 4000000 in
theorem sp_X10_isName {G : GX} {l : Launch} {d : Nat} {w : HW} {a0 : Int32} {K : Int32 → Prop} (hd : 1 ≤ d) (hQ : wp_X10_isName a0 K) : Sp G l m_X10_isName d 0 0 [.int a0] (w) (fun r w2 => ∃ (r1 : Int32), r = some (.int r1) ∧ w2 = w ∧ K r1) := by
  refine Sp.ofX k_X10_isName.1.1 (Nat.le_of_ble_eq_true rfl) ?_
  refine X.lv (lv2 := [(0, .int a0)]) rfl ?_
  refine x_iload_n 0 d_X10_isName_0 rfl rfl ?_
  refine x_bipush (v := (120 : Int32)) d_X10_isName_1 (by decide) ?_
  refine x_bipush (v := (122 : Int32)) d_X10_isName_3 (by decide) ?_
  refine x_invS (rest := []) (d' := d - 1) (mc' := 0) (ms' := 0) [.int a0, .int (120 : Int32), .int (122 : Int32)] k_X10_within lk_X10_86 rfl rfl (Nat.le_of_ble_eq_true rfl) (by omega) (Nat.le_refl _) (Nat.le_refl _) d_X10_isName_5 ((sp_X10_within (d := d - 1) (by omega) hQ).mono (fun r w2 hr => ?_))
  obtain ⟨r1, rfl, rfl, hQ⟩ := hr
  exact x_iret (retB d_X10_isName_8 rfl hQ.1) ⟨_, rfl, rfl, hQ.2⟩
def lp_X10_digits_2 (s : RT) (a0 : Int32) (a1 : Int32) (K : Int32 → Prop) : Nat → Int32 → Prop
  | 0, _ => False
  | n + 1, x_3 => ((a1 ≤ x_3 → K x_3) ∧ (¬ a1 ≤ x_3 → wp_X10_letter s (a0 + x_3) (fun (r2 : Int32) => wp_X10_isDigit r2 (fun (r3 : Int32) => ((r3 = (0 : Int32) → K x_3) ∧ (¬ r3 = (0 : Int32) → ∀ x5 : Int32, x5 = x_3 + (1 : Int32) → lp_X10_digits_2 s a0 a1 K n x5))))))
set_option maxHeartbeats 4000000 in
theorem jt_X10_digits_2 {G : GX} {l : Launch} {d : Nat} {w : HW} {a : Nat} {s : RT} {a0 : Int32} {a1 : Int32} {K : Int32 → Prop} (hd : 2 ≤ d) : ∀ (n : Nat) (x_3 : Int32), lp_X10_digits_2 s a0 a1 K n x_3 → X G l m_X10_digits d 0 0 0 0 2 [(0, .ref a), (1, .int a0), (2, .int a1), (3, .int x_3)] [] (put w a 22 (shM a s)) (fun r w2 => ∃ (r1 : Int32), r = some (.int r1) ∧ w2 = put w a 22 (shM a s) ∧ K r1) := by
  intro n
  induction n with
  | zero =>
    intro x_3 hQ
    exact hQ.elim
  | succ n ih =>
    intro x_3 hQ
    refine x_iload_n 3 d_X10_digits_2 rfl rfl ?_
    refine x_iload_n 2 d_X10_digits_3 rfl rfl ?_
    refine x_icmp_ge (tgt := 26) d_X10_digits_4 (by decide) (fun c_4_1 => ?_) (fun c_4_1 => ?_)
    · have hQ := hQ.1 c_4_1
      refine x_iload_n 3 d_X10_digits_26 rfl rfl ?_
      exact x_iret (retI d_X10_digits_27 rfl) ⟨_, rfl, rfl, hQ⟩
    · have hQ := hQ.2 c_4_1
      refine x_aload_n 0 d_X10_digits_7 rfl rfl ?_
      refine x_iload_n 1 d_X10_digits_8 rfl rfl ?_
      refine x_iload_n 3 d_X10_digits_9 rfl rfl ?_
      refine x_iadd d_X10_digits_10 ?_
      refine x_invV (rest := []) (d' := d - 1) (mc' := 0) (ms' := 0) [.int (a0 + x_3)] k_X10_letter lk_X10_101 gM_0 rfl rfl rfl (Nat.le_of_ble_eq_true rfl) (by omega) (Nat.le_refl _) (Nat.le_refl _) d_X10_digits_11 ((sp_X10_letter (d := d - 1) (by omega) hQ).mono (fun r w2 hr => ?_))
      obtain ⟨r2, rfl, rfl, hQ⟩ := hr
      refine x_invS (rest := []) (d' := d - 1) (mc' := 0) (ms' := 0) [.int r2] k_X10_isDigit lk_X10_105 rfl rfl (Nat.le_of_ble_eq_true rfl) (by omega) (Nat.le_refl _) (Nat.le_refl _) d_X10_digits_14 ((sp_X10_isDigit (d := d - 1) (by omega) hQ).mono (fun r w2 hr => ?_))
      obtain ⟨r3, rfl, rfl, hQ⟩ := hr
      refine x_if_eq (tgt := 26) d_X10_digits_17 (by decide) (fun c_17_4 => ?_) (fun c_17_4 => ?_)
      · have hQ := hQ.1 c_17_4
        refine x_iload_n 3 d_X10_digits_26 rfl rfl ?_
        exact x_iret (retI d_X10_digits_27 rfl) ⟨_, rfl, rfl, hQ⟩
      · have hQ := hQ.2 c_17_4
        obtain ⟨x5, e_x5⟩ : ∃ z : Int32, z = x_3 + (1 : Int32) := ⟨_, rfl⟩
        have hQ := hQ x5 e_x5
        refine x_iinc (v := x5) (lv2 := [(3, .int x5), (0, .ref a), (1, .int a0), (2, .int a1)]) 3 d_X10_digits_20 rfl (by rw [e_x5]; rfl) (by decide) rfl ?_
        refine x_goto (tgt := 2) d_X10_digits_23 (by decide) ?_
        refine x_sub [1, 2, 3, 0] (lv2 := [(0, .ref a), (1, .int a0), (2, .int a1), (3, .int x5)]) rfl ?_
        exact ih x5 hQ
def wp_X10_digits (s : RT) (a0 : Int32) (a1 : Int32) (K : Int32 → Prop) : Prop := ∃ m : Nat, lp_X10_digits_2 s a0 a1 K m (0 : Int32)
set_option maxHeartbeats 4000000 in
theorem sp_X10_digits {G : GX} {l : Launch} {d : Nat} {w : HW} {a : Nat} {s : RT} {a0 : Int32} {a1 : Int32} {K : Int32 → Prop} (hd : 2 ≤ d) (hQ : wp_X10_digits s a0 a1 K) : Sp G l m_X10_digits d 0 0 [.ref a, .int a0, .int a1] (put w a 22 (shM a s)) (fun r w2 => ∃ (r1 : Int32), r = some (.int r1) ∧ w2 = put w a 22 (shM a s) ∧ K r1) := by
  refine Sp.ofX k_X10_digits.1.1 (Nat.le_of_ble_eq_true rfl) ?_
  refine X.lv (lv2 := [(0, .ref a), (1, .int a0), (2, .int a1)]) rfl ?_
  refine x_iconst (v := (0 : Int32)) d_X10_digits_0 (by decide) ?_
  refine x_istore_n (lv2 := [(3, .int (0 : Int32)), (0, .ref a), (1, .int a0), (2, .int a1)]) d_X10_digits_1 rfl (by decide) rfl ?_
  refine x_sub [1, 2, 3, 0] (lv2 := [(0, .ref a), (1, .int a0), (2, .int a1), (3, .int (0 : Int32))]) rfl ?_
  obtain ⟨m, hQ⟩ := hQ
  exact jt_X10_digits_2 hd m (0 : Int32) hQ
def wp_X10_numberEnd (s : RT) (a0 : Int32) (K : Int32 → Prop) : Prop := wp_X10_digits s a0 (4 : Int32) (fun (r1 : Int32) => ∀ x2 : Int32, x2 = a0 + r1 → wp_X10_letter s x2 (fun (r3 : Int32) => ((r3 = (46 : Int32) → wp_X10_digits s (x2 + (1 : Int32)) (3 : Int32) (fun (r5 : Int32) => ((¬ r5 = (0 : Int32) → K ((x2 + (1 : Int32)) + r5)) ∧ (r5 = (0 : Int32) → K ((-2 : Int32) - x2))))) ∧ (¬ r3 = (46 : Int32) → K x2))))
set_option maxHeartbeats 4000000 in
theorem sp_X10_numberEnd {G : GX} {l : Launch} {d : Nat} {w : HW} {a : Nat} {s : RT} {a0 : Int32} {K : Int32 → Prop} (hd : 3 ≤ d) (hQ : wp_X10_numberEnd s a0 K) : Sp G l m_X10_numberEnd d 0 0 [.ref a, .int a0] (put w a 22 (shM a s)) (fun r w2 => ∃ (r1 : Int32), r = some (.int r1) ∧ w2 = put w a 22 (shM a s) ∧ K r1) := by
  refine Sp.ofX k_X10_numberEnd.1.1 (Nat.le_of_ble_eq_true rfl) ?_
  refine X.lv (lv2 := [(0, .ref a), (1, .int a0)]) rfl ?_
  refine x_iload_n 1 d_X10_numberEnd_0 rfl rfl ?_
  refine x_aload_n 0 d_X10_numberEnd_1 rfl rfl ?_
  refine x_iload_n 1 d_X10_numberEnd_2 rfl rfl ?_
  refine x_iconst (v := (4 : Int32)) d_X10_numberEnd_3 (by decide) ?_
  refine x_invV (rest := [.int a0]) (d' := d - 1) (mc' := 0) (ms' := 0) [.int a0, .int (4 : Int32)] k_X10_digits lk_X10_109 gM_0 rfl rfl rfl (Nat.le_of_ble_eq_true rfl) (by omega) (Nat.le_refl _) (Nat.le_refl _) d_X10_numberEnd_4 ((sp_X10_digits (d := d - 1) (by omega) hQ).mono (fun r w2 hr => ?_))
  obtain ⟨r1, rfl, rfl, hQ⟩ := hr
  refine x_iadd d_X10_numberEnd_7 ?_
  refine x_topi (fun x2 e_x2 => ?_)
  have hQ := hQ x2 e_x2
  refine x_istore_n (lv2 := [(2, .int x2), (0, .ref a), (1, .int a0)]) d_X10_numberEnd_8 rfl (by decide) rfl ?_
  refine x_aload_n 1 d_X10_numberEnd_9 rfl rfl ?_
  refine x_iload_n 0 d_X10_numberEnd_10 rfl rfl ?_
  refine x_invV (rest := []) (d' := d - 1) (mc' := 0) (ms' := 0) [.int x2] k_X10_letter lk_X10_101 gM_0 rfl rfl rfl (Nat.le_of_ble_eq_true rfl) (by omega) (Nat.le_refl _) (Nat.le_refl _) d_X10_numberEnd_11 ((sp_X10_letter (d := d - 1) (by omega) hQ).mono (fun r w2 hr => ?_))
  obtain ⟨r3, rfl, rfl, hQ⟩ := hr
  refine x_bipush (v := (46 : Int32)) d_X10_numberEnd_14 (by decide) ?_
  refine x_icmp_eq (tgt := 21) d_X10_numberEnd_16 (by decide) (fun c_16_4 => ?_) (fun c_16_4 => ?_)
  · have hQ := hQ.1 c_16_4
    refine x_aload_n 1 d_X10_numberEnd_21 rfl rfl ?_
    refine x_iload_n 0 d_X10_numberEnd_22 rfl rfl ?_
    refine x_iconst (v := (1 : Int32)) d_X10_numberEnd_23 (by decide) ?_
    refine x_iadd d_X10_numberEnd_24 ?_
    refine x_iconst (v := (3 : Int32)) d_X10_numberEnd_25 (by decide) ?_
    refine x_invV (rest := []) (d' := d - 1) (mc' := 0) (ms' := 0) [.int (x2 + (1 : Int32)), .int (3 : Int32)] k_X10_digits lk_X10_109 gM_0 rfl rfl rfl (Nat.le_of_ble_eq_true rfl) (by omega) (Nat.le_refl _) (Nat.le_refl _) d_X10_numberEnd_26 ((sp_X10_digits (d := d - 1) (by omega) hQ).mono (fun r w2 hr => ?_))
    obtain ⟨r5, rfl, rfl, hQ⟩ := hr
    refine x_istore_n (lv2 := [(3, .int r5), (2, .int x2), (0, .ref a), (1, .int a0)]) d_X10_numberEnd_29 rfl (by decide) rfl ?_
    refine x_iload_n 0 d_X10_numberEnd_30 rfl rfl ?_
    refine x_if_ne (tgt := 41) d_X10_numberEnd_31 (by decide) (fun c_31_6 => ?_) (fun c_31_6 => ?_)
    · have hQ := hQ.1 c_31_6
      refine x_iload_n 1 d_X10_numberEnd_41 rfl rfl ?_
      refine x_iconst (v := (1 : Int32)) d_X10_numberEnd_42 (by decide) ?_
      refine x_iadd d_X10_numberEnd_43 ?_
      refine x_iload_n 0 d_X10_numberEnd_44 rfl rfl ?_
      refine x_iadd d_X10_numberEnd_45 ?_
      exact x_iret (retI d_X10_numberEnd_46 rfl) ⟨_, rfl, rfl, hQ⟩
    · have hQ := hQ.2 c_31_6
      refine x_bipush (v := (-2 : Int32)) d_X10_numberEnd_34 (by decide) ?_
      refine x_iload_n 1 d_X10_numberEnd_36 rfl rfl ?_
      refine x_isub d_X10_numberEnd_37 ?_
      refine x_goto (tgt := 46) d_X10_numberEnd_38 (by decide) ?_
      exact x_iret (retI d_X10_numberEnd_46 rfl) ⟨_, rfl, rfl, hQ⟩
  · have hQ := hQ.2 c_16_4
    refine x_iload_n 0 d_X10_numberEnd_19 rfl rfl ?_
    exact x_iret (retI d_X10_numberEnd_20 rfl) ⟨_, rfl, rfl, hQ⟩
def jp_X10_nameEnd_31 (s : RT) (a0 : Int32) (K : Int32 → Prop) (x_2 : Int32) : Prop := wp_X10_letter s x_2 (fun (r4 : Int32) => ((r4 = (64 : Int32) → wp_X10_letter s (x_2 + (1 : Int32)) (fun (r6 : Int32) => wp_X10_within r6 (48 : Int32) (50 : Int32) (fun (r7 : Int32) => ((r7 = (0 : Int32) → K ((-2 : Int32) - x_2)) ∧ (¬ r7 = (0 : Int32) → K (x_2 + (2 : Int32))))))) ∧ (¬ r4 = (64 : Int32) → K x_2)))
set_option maxHeartbeats 4000000 in
theorem jt_X10_nameEnd_31 {G : GX} {l : Launch} {d : Nat} {w : HW} {a : Nat} {s : RT} {a0 : Int32} {K : Int32 → Prop} (hd : 1 ≤ d) (x_2 : Int32) (hQ : jp_X10_nameEnd_31 s a0 K x_2) : X G l m_X10_nameEnd d 0 0 0 0 31 [(0, .ref a), (2, .int x_2)] [] (put w a 22 (shM a s)) (fun r w2 => ∃ (r1 : Int32), r = some (.int r1) ∧ w2 = put w a 22 (shM a s) ∧ K r1) := by
  refine x_aload_n 0 d_X10_nameEnd_31 rfl rfl ?_
  refine x_iload_n 1 d_X10_nameEnd_32 rfl rfl ?_
  refine x_invV (rest := []) (d' := d - 1) (mc' := 0) (ms' := 0) [.int x_2] k_X10_letter lk_X10_101 gM_0 rfl rfl rfl (Nat.le_of_ble_eq_true rfl) (by omega) (Nat.le_refl _) (Nat.le_refl _) d_X10_nameEnd_33 ((sp_X10_letter (d := d - 1) (by omega) hQ).mono (fun r w2 hr => ?_))
  obtain ⟨r4, rfl, rfl, hQ⟩ := hr
  refine x_bipush (v := (64 : Int32)) d_X10_nameEnd_36 (by decide) ?_
  refine x_icmp_eq (tgt := 43) d_X10_nameEnd_38 (by decide) (fun c_38_5 => ?_) (fun c_38_5 => ?_)
  · have hQ := hQ.1 c_38_5
    refine x_aload_n 0 d_X10_nameEnd_43 rfl rfl ?_
    refine x_iload_n 1 d_X10_nameEnd_44 rfl rfl ?_
    refine x_iconst (v := (1 : Int32)) d_X10_nameEnd_45 (by decide) ?_
    refine x_iadd d_X10_nameEnd_46 ?_
    refine x_invV (rest := []) (d' := d - 1) (mc' := 0) (ms' := 0) [.int (x_2 + (1 : Int32))] k_X10_letter lk_X10_101 gM_0 rfl rfl rfl (Nat.le_of_ble_eq_true rfl) (by omega) (Nat.le_refl _) (Nat.le_refl _) d_X10_nameEnd_47 ((sp_X10_letter (d := d - 1) (by omega) hQ).mono (fun r w2 hr => ?_))
    obtain ⟨r6, rfl, rfl, hQ⟩ := hr
    refine x_bipush (v := (48 : Int32)) d_X10_nameEnd_50 (by decide) ?_
    refine x_bipush (v := (50 : Int32)) d_X10_nameEnd_52 (by decide) ?_
    refine x_invS (rest := []) (d' := d - 1) (mc' := 0) (ms' := 0) [.int r6, .int (48 : Int32), .int (50 : Int32)] k_X10_within lk_X10_86 rfl rfl (Nat.le_of_ble_eq_true rfl) (by omega) (Nat.le_refl _) (Nat.le_refl _) d_X10_nameEnd_54 ((sp_X10_within (d := d - 1) (by omega) hQ).mono (fun r w2 hr => ?_))
    obtain ⟨r7, rfl, rfl, hQ⟩ := hr
    refine x_if_eq (tgt := 66) d_X10_nameEnd_57 (by decide) (fun c_57_8 => ?_) (fun c_57_8 => ?_)
    · have hQ := hQ.1 c_57_8
      refine x_bipush (v := (-2 : Int32)) d_X10_nameEnd_66 (by decide) ?_
      refine x_iload_n 1 d_X10_nameEnd_68 rfl rfl ?_
      refine x_isub d_X10_nameEnd_69 ?_
      exact x_iret (retI d_X10_nameEnd_70 rfl) ⟨_, rfl, rfl, hQ⟩
    · have hQ := hQ.2 c_57_8
      refine x_iload_n 1 d_X10_nameEnd_60 rfl rfl ?_
      refine x_iconst (v := (2 : Int32)) d_X10_nameEnd_61 (by decide) ?_
      refine x_iadd d_X10_nameEnd_62 ?_
      refine x_goto (tgt := 70) d_X10_nameEnd_63 (by decide) ?_
      exact x_iret (retI d_X10_nameEnd_70 rfl) ⟨_, rfl, rfl, hQ⟩
  · have hQ := hQ.2 c_38_5
    refine x_iload_n 1 d_X10_nameEnd_41 rfl rfl ?_
    exact x_iret (retI d_X10_nameEnd_42 rfl) ⟨_, rfl, rfl, hQ⟩
def wp_X10_nameEnd (s : RT) (a0 : Int32) (K : Int32 → Prop) : Prop := ∀ x1 : Int32, x1 = a0 + (1 : Int32) → wp_X10_letter s x1 (fun (r2 : Int32) => ((¬ r2 = (39 : Int32) → jp_X10_nameEnd_31 s a0 K x1) ∧ (r2 = (39 : Int32) → ∀ x9 : Int32, x9 = x1 + (1 : Int32) → wp_X10_letter s x9 (fun (r10 : Int32) => ((r10 = (64 : Int32) → jp_X10_nameEnd_31 s a0 K x9) ∧ (¬ r10 = (64 : Int32) → K ((-1 : Int32) - x9)))))))
set_option maxHeartbeats 4000000 in
theorem sp_X10_nameEnd {G : GX} {l : Launch} {d : Nat} {w : HW} {a : Nat} {s : RT} {a0 : Int32} {K : Int32 → Prop} (hd : 1 ≤ d) (hQ : wp_X10_nameEnd s a0 K) : Sp G l m_X10_nameEnd d 0 0 [.ref a, .int a0] (put w a 22 (shM a s)) (fun r w2 => ∃ (r1 : Int32), r = some (.int r1) ∧ w2 = put w a 22 (shM a s) ∧ K r1) := by
  refine Sp.ofX k_X10_nameEnd.1.1 (Nat.le_of_ble_eq_true rfl) ?_
  refine X.lv (lv2 := [(0, .ref a), (1, .int a0)]) rfl ?_
  refine x_iload_n 1 d_X10_nameEnd_0 rfl rfl ?_
  refine x_iconst (v := (1 : Int32)) d_X10_nameEnd_1 (by decide) ?_
  refine x_iadd d_X10_nameEnd_2 ?_
  refine x_topi (fun x1 e_x1 => ?_)
  have hQ := hQ x1 e_x1
  refine x_istore_n (lv2 := [(2, .int x1), (0, .ref a), (1, .int a0)]) d_X10_nameEnd_3 rfl (by decide) rfl ?_
  refine x_aload_n 1 d_X10_nameEnd_4 rfl rfl ?_
  refine x_iload_n 0 d_X10_nameEnd_5 rfl rfl ?_
  refine x_invV (rest := []) (d' := d - 1) (mc' := 0) (ms' := 0) [.int x1] k_X10_letter lk_X10_101 gM_0 rfl rfl rfl (Nat.le_of_ble_eq_true rfl) (by omega) (Nat.le_refl _) (Nat.le_refl _) d_X10_nameEnd_6 ((sp_X10_letter (d := d - 1) (by omega) hQ).mono (fun r w2 hr => ?_))
  obtain ⟨r2, rfl, rfl, hQ⟩ := hr
  refine x_bipush (v := (39 : Int32)) d_X10_nameEnd_9 (by decide) ?_
  refine x_icmp_ne (tgt := 31) d_X10_nameEnd_11 (by decide) (fun c_11_3 => ?_) (fun c_11_3 => ?_)
  · have hQ := hQ.1 c_11_3
    refine x_sub [1, 0] (lv2 := [(0, .ref a), (2, .int x1)]) rfl ?_
    exact jt_X10_nameEnd_31 hd x1 hQ
  · have hQ := hQ.2 c_11_3
    obtain ⟨x9, e_x9⟩ : ∃ z : Int32, z = x1 + (1 : Int32) := ⟨_, rfl⟩
    have hQ := hQ x9 e_x9
    refine x_iinc (v := x9) (lv2 := [(2, .int x9), (0, .ref a), (1, .int a0)]) 0 d_X10_nameEnd_14 rfl (by rw [e_x9]; rfl) (by decide) rfl ?_
    refine x_aload_n 1 d_X10_nameEnd_17 rfl rfl ?_
    refine x_iload_n 0 d_X10_nameEnd_18 rfl rfl ?_
    refine x_invV (rest := []) (d' := d - 1) (mc' := 0) (ms' := 0) [.int x9] k_X10_letter lk_X10_101 gM_0 rfl rfl rfl (Nat.le_of_ble_eq_true rfl) (by omega) (Nat.le_refl _) (Nat.le_refl _) d_X10_nameEnd_19 ((sp_X10_letter (d := d - 1) (by omega) hQ).mono (fun r w2 hr => ?_))
    obtain ⟨r10, rfl, rfl, hQ⟩ := hr
    refine x_bipush (v := (64 : Int32)) d_X10_nameEnd_22 (by decide) ?_
    refine x_icmp_eq (tgt := 31) d_X10_nameEnd_24 (by decide) (fun c_24_11 => ?_) (fun c_24_11 => ?_)
    · have hQ := hQ.1 c_24_11
      refine x_sub [1, 0] (lv2 := [(0, .ref a), (2, .int x9)]) rfl ?_
      exact jt_X10_nameEnd_31 hd x9 hQ
    · have hQ := hQ.2 c_24_11
      refine x_iconst (v := (-1 : Int32)) d_X10_nameEnd_27 (by decide) ?_
      refine x_iload_n 0 d_X10_nameEnd_28 rfl rfl ?_
      refine x_isub d_X10_nameEnd_29 ?_
      exact x_iret (retI d_X10_nameEnd_30 rfl) ⟨_, rfl, rfl, hQ⟩
def jp_X10_wordEnd_45 (s : RT) (a0 : Int32) (K : Int32 → Prop) (t_0 : Int32) (t_1 : Int32) : Prop := ((¬ t_1 = t_0 → K ((-3 : Int32) - a0)) ∧ (t_1 = t_0 → K (a0 + (3 : Int32))))
set_option maxHeartbeats 4000000 in
theorem jt_X10_wordEnd_45 {G : GX} {l : Launch} {d : Nat} {w : HW} {a : Nat} {s : RT} {a0 : Int32} {K : Int32 → Prop} (hd : 1 ≤ d) (t_0 : Int32) (t_1 : Int32) (hQ : jp_X10_wordEnd_45 s a0 K t_0 t_1) : X G l m_X10_wordEnd d 0 0 0 0 45 [(1, .int a0)] [.int t_0, .int t_1] (put w a 22 (shM a s)) (fun r w2 => ∃ (r1 : Int32), r = some (.int r1) ∧ w2 = put w a 22 (shM a s) ∧ K r1) := by
  refine x_icmp_ne (tgt := 54) d_X10_wordEnd_45 (by decide) (fun c_45_5 => ?_) (fun c_45_5 => ?_)
  · have hQ := hQ.1 c_45_5
    refine x_bipush (v := (-3 : Int32)) d_X10_wordEnd_54 (by decide) ?_
    refine x_iload_n 0 d_X10_wordEnd_56 rfl rfl ?_
    refine x_isub d_X10_wordEnd_57 ?_
    exact x_iret (retI d_X10_wordEnd_58 rfl) ⟨_, rfl, rfl, hQ⟩
  · have hQ := hQ.2 c_45_5
    refine x_iload_n 0 d_X10_wordEnd_48 rfl rfl ?_
    refine x_iconst (v := (3 : Int32)) d_X10_wordEnd_49 (by decide) ?_
    refine x_iadd d_X10_wordEnd_50 ?_
    refine x_goto (tgt := 58) d_X10_wordEnd_51 (by decide) ?_
    exact x_iret (retI d_X10_wordEnd_58 rfl) ⟨_, rfl, rfl, hQ⟩
def jp_X10_wordEnd_25 (s : RT) (a0 : Int32) (K : Int32 → Prop) (x_2 : Int32) : Prop := wp_X10_letter s (a0 + (2 : Int32)) (fun (r3 : Int32) => ((¬ x_2 = (105 : Int32) → jp_X10_wordEnd_45 s a0 K (120 : Int32) r3) ∧ (x_2 = (105 : Int32) → jp_X10_wordEnd_45 s a0 K (110 : Int32) r3)))
set_option maxHeartbeats 4000000 in
theorem jt_X10_wordEnd_25 {G : GX} {l : Launch} {d : Nat} {w : HW} {a : Nat} {s : RT} {a0 : Int32} {K : Int32 → Prop} (hd : 1 ≤ d) (x_2 : Int32) (hQ : jp_X10_wordEnd_25 s a0 K x_2) : X G l m_X10_wordEnd d 0 0 0 0 25 [(0, .ref a), (1, .int a0), (2, .int x_2)] [] (put w a 22 (shM a s)) (fun r w2 => ∃ (r1 : Int32), r = some (.int r1) ∧ w2 = put w a 22 (shM a s) ∧ K r1) := by
  refine x_aload_n 0 d_X10_wordEnd_25 rfl rfl ?_
  refine x_iload_n 1 d_X10_wordEnd_26 rfl rfl ?_
  refine x_iconst (v := (2 : Int32)) d_X10_wordEnd_27 (by decide) ?_
  refine x_iadd d_X10_wordEnd_28 ?_
  refine x_invV (rest := []) (d' := d - 1) (mc' := 0) (ms' := 0) [.int (a0 + (2 : Int32))] k_X10_letter lk_X10_101 gM_0 rfl rfl rfl (Nat.le_of_ble_eq_true rfl) (by omega) (Nat.le_refl _) (Nat.le_refl _) d_X10_wordEnd_29 ((sp_X10_letter (d := d - 1) (by omega) hQ).mono (fun r w2 hr => ?_))
  obtain ⟨r3, rfl, rfl, hQ⟩ := hr
  refine x_iload_n 2 d_X10_wordEnd_32 rfl rfl ?_
  refine x_bipush (v := (105 : Int32)) d_X10_wordEnd_33 (by decide) ?_
  refine x_icmp_ne (tgt := 43) d_X10_wordEnd_35 (by decide) (fun c_35_4 => ?_) (fun c_35_4 => ?_)
  · have hQ := hQ.1 c_35_4
    refine x_bipush (v := (120 : Int32)) d_X10_wordEnd_43 (by decide) ?_
    refine x_sub [1] (lv2 := [(1, .int a0)]) rfl ?_
    exact jt_X10_wordEnd_45 hd (120 : Int32) r3 hQ
  · have hQ := hQ.2 c_35_4
    refine x_bipush (v := (110 : Int32)) d_X10_wordEnd_38 (by decide) ?_
    refine x_goto (tgt := 45) d_X10_wordEnd_40 (by decide) ?_
    refine x_sub [1] (lv2 := [(1, .int a0)]) rfl ?_
    exact jt_X10_wordEnd_45 hd (110 : Int32) r3 hQ
def wp_X10_wordEnd (s : RT) (a0 : Int32) (K : Int32 → Prop) : Prop := wp_X10_letter s (a0 + (1 : Int32)) (fun (r1 : Int32) => ((r1 = (105 : Int32) → jp_X10_wordEnd_25 s a0 K r1) ∧ (¬ r1 = (105 : Int32) → ((r1 = (97 : Int32) → jp_X10_wordEnd_25 s a0 K r1) ∧ (¬ r1 = (97 : Int32) → K ((-2 : Int32) - a0))))))
set_option maxHeartbeats 4000000 in
theorem sp_X10_wordEnd {G : GX} {l : Launch} {d : Nat} {w : HW} {a : Nat} {s : RT} {a0 : Int32} {K : Int32 → Prop} (hd : 1 ≤ d) (hQ : wp_X10_wordEnd s a0 K) : Sp G l m_X10_wordEnd d 0 0 [.ref a, .int a0] (put w a 22 (shM a s)) (fun r w2 => ∃ (r1 : Int32), r = some (.int r1) ∧ w2 = put w a 22 (shM a s) ∧ K r1) := by
  refine Sp.ofX k_X10_wordEnd.1.1 (Nat.le_of_ble_eq_true rfl) ?_
  refine X.lv (lv2 := [(0, .ref a), (1, .int a0)]) rfl ?_
  refine x_aload_n 0 d_X10_wordEnd_0 rfl rfl ?_
  refine x_iload_n 1 d_X10_wordEnd_1 rfl rfl ?_
  refine x_iconst (v := (1 : Int32)) d_X10_wordEnd_2 (by decide) ?_
  refine x_iadd d_X10_wordEnd_3 ?_
  refine x_invV (rest := []) (d' := d - 1) (mc' := 0) (ms' := 0) [.int (a0 + (1 : Int32))] k_X10_letter lk_X10_101 gM_0 rfl rfl rfl (Nat.le_of_ble_eq_true rfl) (by omega) (Nat.le_refl _) (Nat.le_refl _) d_X10_wordEnd_4 ((sp_X10_letter (d := d - 1) (by omega) hQ).mono (fun r w2 hr => ?_))
  obtain ⟨r1, rfl, rfl, hQ⟩ := hr
  refine x_istore_n (lv2 := [(2, .int r1), (0, .ref a), (1, .int a0)]) d_X10_wordEnd_7 rfl (by decide) rfl ?_
  refine x_iload_n 0 d_X10_wordEnd_8 rfl rfl ?_
  refine x_bipush (v := (105 : Int32)) d_X10_wordEnd_9 (by decide) ?_
  refine x_icmp_eq (tgt := 25) d_X10_wordEnd_11 (by decide) (fun c_11_2 => ?_) (fun c_11_2 => ?_)
  · have hQ := hQ.1 c_11_2
    refine x_sub [1, 2, 0] (lv2 := [(0, .ref a), (1, .int a0), (2, .int r1)]) rfl ?_
    exact jt_X10_wordEnd_25 hd r1 hQ
  · have hQ := hQ.2 c_11_2
    refine x_iload_n 0 d_X10_wordEnd_14 rfl rfl ?_
    refine x_bipush (v := (97 : Int32)) d_X10_wordEnd_15 (by decide) ?_
    refine x_icmp_eq (tgt := 25) d_X10_wordEnd_17 (by decide) (fun c_17_6 => ?_) (fun c_17_6 => ?_)
    · have hQ := hQ.1 c_17_6
      refine x_sub [1, 2, 0] (lv2 := [(0, .ref a), (1, .int a0), (2, .int r1)]) rfl ?_
      exact jt_X10_wordEnd_25 hd r1 hQ
    · have hQ := hQ.2 c_17_6
      refine x_bipush (v := (-2 : Int32)) d_X10_wordEnd_20 (by decide) ?_
      refine x_iload_n 2 d_X10_wordEnd_22 rfl rfl ?_
      refine x_isub d_X10_wordEnd_23 ?_
      exact x_iret (retI d_X10_wordEnd_24 rfl) ⟨_, rfl, rfl, hQ⟩
def jp_X10_faultOf_345 (K : Int32 → RT → Prop) (k_6 : Int32 → Int32 → Int32 → RT → Prop) (x_1 : Int32) (x_2 : Int32) (x_5 : Int32) (y_0 : RT) : Prop := (((0 : Int32) ≤ x_5 → k_6 x_1 x_2 x_5 y_0) ∧ (¬ (0 : Int32) ≤ x_5 → K ((-1 : Int32) - x_5) y_0))
set_option maxHeartbeats 4000000 in
theorem jt_X10_faultOf_345 {G : GX} {l : Launch} {d : Nat} {w : HW} {a : Nat} {K : Int32 → RT → Prop} {k_6 : Int32 → Int32 → Int32 → RT → Prop} (hd : 4 ≤ d) (hk_6 : ∀ (x_1 : Int32) (x_2 : Int32) (x_3 : Int32) (y_0 : RT), k_6 x_1 x_2 x_3 y_0 → X G l m_X10_faultOf d 0 0 0 0 6 [(0, .ref a), (1, .int x_1), (2, .int x_2), (3, .int x_3)] [] (put w a 22 (shM a y_0)) (fun r w2 => ∃ (r1 : Int32), ∃ (z0 : RT), r = some (.int r1) ∧ w2 = put w a 22 (shM a z0) ∧ K r1 z0)) (x_1 : Int32) (x_2 : Int32) (x_5 : Int32) (y_0 : RT) (hQ : jp_X10_faultOf_345 K k_6 x_1 x_2 x_5 y_0) : X G l m_X10_faultOf d 0 0 0 0 345 [(0, .ref a), (1, .int x_1), (2, .int x_2), (5, .int x_5)] [] (put w a 22 (shM a y_0)) (fun r w2 => ∃ (r1 : Int32), ∃ (z0 : RT), r = some (.int r1) ∧ w2 = put w a 22 (shM a z0) ∧ K r1 z0) := by
  refine x_iload 3 d_X10_faultOf_345 rfl ?_
  refine x_if_ge (tgt := 355) d_X10_faultOf_347 (by decide) (fun c_347_16 => ?_) (fun c_347_16 => ?_)
  · have hQ := hQ.1 c_347_16
    refine x_iload 3 d_X10_faultOf_355 rfl ?_
    refine x_istore_n (lv2 := [(3, .int x_5), (0, .ref a), (1, .int x_1), (2, .int x_2), (5, .int x_5)]) d_X10_faultOf_357 rfl (by decide) rfl ?_
    refine x_goto (tgt := 6) d_X10_faultOf_358 (by decide) ?_
    refine x_sub [1, 2, 3, 0] (lv2 := [(0, .ref a), (1, .int x_1), (2, .int x_2), (3, .int x_5)]) rfl ?_
    exact hk_6 x_1 x_2 x_5 y_0 hQ
  · have hQ := hQ.2 c_347_16
    refine x_iconst (v := (-1 : Int32)) d_X10_faultOf_350 (by decide) ?_
    refine x_iload 3 d_X10_faultOf_351 rfl ?_
    refine x_isub d_X10_faultOf_353 ?_
    exact x_iret (retI d_X10_faultOf_354 rfl) ⟨_, _, rfl, rfl, hQ⟩
def jp_X10_faultOf_310 (K : Int32 → RT → Prop) (k_6 : Int32 → Int32 → Int32 → RT → Prop) (x_1 : Int32) (x_2 : Int32) (x_3 : Int32) (x_4 : Int32) (x_5 : Int32) (y_0 : RT) : Prop := ((¬ x_2 = (0 : Int32) → K x_3 y_0) ∧ (x_2 = (0 : Int32) → ((¬ x_4 = (41 : Int32) → K x_3 y_0) ∧ (x_4 = (41 : Int32) → ((x_1 ≤ (0 : Int32) → K x_3 y_0) ∧ (¬ x_1 ≤ (0 : Int32) → vp_in (x_1 - (1 : Int32)) 160 ∧ ((¬ (y_0.1 21 (x_1 - (1 : Int32)).toNatClampNeg) = (1 : Int32) → K x_3 y_0) ∧ ((y_0.1 21 (x_1 - (1 : Int32)).toNatClampNeg) = (1 : Int32) → ∀ x15 : Int32, x15 = x_1 + (-1 : Int32) → jp_X10_faultOf_345  K k_6 x15 x_2 x_5 y_0))))))))
set_option maxHeartbeats 4000000 in
theorem jt_X10_faultOf_310 {G : GX} {l : Launch} {d : Nat} {w : HW} {a : Nat} {K : Int32 → RT → Prop} {k_6 : Int32 → Int32 → Int32 → RT → Prop} (hd : 4 ≤ d) (hk_6 : ∀ (x_1 : Int32) (x_2 : Int32) (x_3 : Int32) (y_0 : RT), k_6 x_1 x_2 x_3 y_0 → X G l m_X10_faultOf d 0 0 0 0 6 [(0, .ref a), (1, .int x_1), (2, .int x_2), (3, .int x_3)] [] (put w a 22 (shM a y_0)) (fun r w2 => ∃ (r1 : Int32), ∃ (z0 : RT), r = some (.int r1) ∧ w2 = put w a 22 (shM a z0) ∧ K r1 z0)) (x_1 : Int32) (x_2 : Int32) (x_3 : Int32) (x_4 : Int32) (x_5 : Int32) (y_0 : RT) (hQ : jp_X10_faultOf_310 K k_6 x_1 x_2 x_3 x_4 x_5 y_0) : X G l m_X10_faultOf d 0 0 0 0 310 [(0, .ref a), (1, .int x_1), (2, .int x_2), (3, .int x_3), (4, .int x_4), (5, .int x_5)] [] (put w a 22 (shM a y_0)) (fun r w2 => ∃ (r1 : Int32), ∃ (z0 : RT), r = some (.int r1) ∧ w2 = put w a 22 (shM a z0) ∧ K r1 z0) := by
  refine x_iload_n 2 d_X10_faultOf_310 rfl rfl ?_
  refine x_if_ne (tgt := 343) d_X10_faultOf_311 (by decide) (fun c_311_11 => ?_) (fun c_311_11 => ?_)
  · have hQ := hQ.1 c_311_11
    refine x_iload_n 3 d_X10_faultOf_343 rfl rfl ?_
    exact x_iret (retI d_X10_faultOf_344 rfl) ⟨_, _, rfl, rfl, hQ⟩
  · have hQ := hQ.2 c_311_11
    refine x_iload 4 d_X10_faultOf_314 rfl ?_
    refine x_bipush (v := (41 : Int32)) d_X10_faultOf_316 (by decide) ?_
    refine x_icmp_ne (tgt := 343) d_X10_faultOf_318 (by decide) (fun c_318_12 => ?_) (fun c_318_12 => ?_)
    · have hQ := hQ.1 c_318_12
      refine x_iload_n 3 d_X10_faultOf_343 rfl rfl ?_
      exact x_iret (retI d_X10_faultOf_344 rfl) ⟨_, _, rfl, rfl, hQ⟩
    · have hQ := hQ.2 c_318_12
      refine x_iload_n 1 d_X10_faultOf_321 rfl rfl ?_
      refine x_if_le (tgt := 343) d_X10_faultOf_322 (by decide) (fun c_322_13 => ?_) (fun c_322_13 => ?_)
      · have hQ := hQ.1 c_322_13
        refine x_iload_n 3 d_X10_faultOf_343 rfl rfl ?_
        exact x_iret (retI d_X10_faultOf_344 rfl) ⟨_, _, rfl, rfl, hQ⟩
      · have hQ := hQ.2 c_322_13
        refine x_aload_n 0 d_X10_faultOf_325 rfl rfl ?_
        refine x_getf 28 gf_X10_71 gM_0 rfl d_X10_faultOf_326 ?_
        refine x_iload_n 1 d_X10_faultOf_329 rfl rfl ?_
        refine x_iconst (v := (1 : Int32)) d_X10_faultOf_330 (by decide) ?_
        refine x_isub d_X10_faultOf_331 ?_
        have hN := hQ.1
        have hQ := hQ.2
        refine x_iald gM_21 hN d_X10_faultOf_332 ?_
        refine x_iconst (v := (1 : Int32)) d_X10_faultOf_333 (by decide) ?_
        refine x_icmp_ne (tgt := 343) d_X10_faultOf_334 (by decide) (fun c_334_14 => ?_) (fun c_334_14 => ?_)
        · have hQ := hQ.1 c_334_14
          refine x_iload_n 3 d_X10_faultOf_343 rfl rfl ?_
          exact x_iret (retI d_X10_faultOf_344 rfl) ⟨_, _, rfl, rfl, hQ⟩
        · have hQ := hQ.2 c_334_14
          obtain ⟨x15, e_x15⟩ : ∃ z : Int32, z = x_1 + (-1 : Int32) := ⟨_, rfl⟩
          have hQ := hQ x15 e_x15
          refine x_iinc (v := x15) (lv2 := [(1, .int x15), (0, .ref a), (2, .int x_2), (3, .int x_3), (4, .int x_4), (5, .int x_5)]) 1 d_X10_faultOf_337 rfl (by rw [e_x15]; rfl) (by decide) rfl ?_
          refine x_goto (tgt := 345) d_X10_faultOf_340 (by decide) ?_
          refine x_sub [1, 0, 2, 5] (lv2 := [(0, .ref a), (1, .int x15), (2, .int x_2), (5, .int x_5)]) rfl ?_
          exact jt_X10_faultOf_345 hd hk_6 x15 x_2 x_5 y_0 hQ
def jp_X10_faultOf_269 (K : Int32 → RT → Prop) (k_6 : Int32 → Int32 → Int32 → RT → Prop) (x_1 : Int32) (x_2 : Int32) (x_3 : Int32) (x_4 : Int32) (x_5 : Int32) (y_0 : RT) : Prop := ((¬ x_2 = (0 : Int32) → jp_X10_faultOf_310  K k_6 x_1 x_2 x_3 x_4 x_5 y_0) ∧ (x_2 = (0 : Int32) → ((¬ x_4 = (44 : Int32) → jp_X10_faultOf_310  K k_6 x_1 x_2 x_3 x_4 x_5 y_0) ∧ (x_4 = (44 : Int32) → ((x_1 ≤ (0 : Int32) → jp_X10_faultOf_310  K k_6 x_1 x_2 x_3 x_4 x_5 y_0) ∧ (¬ x_1 ≤ (0 : Int32) → vp_in (x_1 - (1 : Int32)) 160 ∧ ((¬ (y_0.1 21 (x_1 - (1 : Int32)).toNatClampNeg) = (2 : Int32) → jp_X10_faultOf_310  K k_6 x_1 x_2 x_3 x_4 x_5 y_0) ∧ ((y_0.1 21 (x_1 - (1 : Int32)).toNatClampNeg) = (2 : Int32) → vp_in (x_1 - (1 : Int32)) 160 ∧ ∀ s20 : RT, s20 = rI y_0 21 (upd (y_0.1 21) (x_1 - (1 : Int32)).toNatClampNeg (1 : Int32)) → jp_X10_faultOf_345  K k_6 x_1 (1 : Int32) x_5 s20))))))))
set_option maxHeartbeats 4000000 in
theorem jt_X10_faultOf_269 {G : GX} {l : Launch} {d : Nat} {w : HW} {a : Nat} {K : Int32 → RT → Prop} {k_6 : Int32 → Int32 → Int32 → RT → Prop} (hd : 4 ≤ d) (hk_6 : ∀ (x_1 : Int32) (x_2 : Int32) (x_3 : Int32) (y_0 : RT), k_6 x_1 x_2 x_3 y_0 → X G l m_X10_faultOf d 0 0 0 0 6 [(0, .ref a), (1, .int x_1), (2, .int x_2), (3, .int x_3)] [] (put w a 22 (shM a y_0)) (fun r w2 => ∃ (r1 : Int32), ∃ (z0 : RT), r = some (.int r1) ∧ w2 = put w a 22 (shM a z0) ∧ K r1 z0)) (x_1 : Int32) (x_2 : Int32) (x_3 : Int32) (x_4 : Int32) (x_5 : Int32) (y_0 : RT) (hQ : jp_X10_faultOf_269 K k_6 x_1 x_2 x_3 x_4 x_5 y_0) : X G l m_X10_faultOf d 0 0 0 0 269 [(0, .ref a), (1, .int x_1), (2, .int x_2), (3, .int x_3), (4, .int x_4), (5, .int x_5)] [] (put w a 22 (shM a y_0)) (fun r w2 => ∃ (r1 : Int32), ∃ (z0 : RT), r = some (.int r1) ∧ w2 = put w a 22 (shM a z0) ∧ K r1 z0) := by
  refine x_iload_n 2 d_X10_faultOf_269 rfl rfl ?_
  refine x_if_ne (tgt := 310) d_X10_faultOf_270 (by decide) (fun c_270_10 => ?_) (fun c_270_10 => ?_)
  · have hQ := hQ.1 c_270_10
    refine x_sub [0, 1, 2, 3, 4, 5] (lv2 := [(0, .ref a), (1, .int x_1), (2, .int x_2), (3, .int x_3), (4, .int x_4), (5, .int x_5)]) rfl ?_
    exact jt_X10_faultOf_310 hd hk_6 x_1 x_2 x_3 x_4 x_5 y_0 hQ
  · have hQ := hQ.2 c_270_10
    refine x_iload 4 d_X10_faultOf_273 rfl ?_
    refine x_bipush (v := (44 : Int32)) d_X10_faultOf_275 (by decide) ?_
    refine x_icmp_ne (tgt := 310) d_X10_faultOf_277 (by decide) (fun c_277_17 => ?_) (fun c_277_17 => ?_)
    · have hQ := hQ.1 c_277_17
      refine x_sub [0, 1, 2, 3, 4, 5] (lv2 := [(0, .ref a), (1, .int x_1), (2, .int x_2), (3, .int x_3), (4, .int x_4), (5, .int x_5)]) rfl ?_
      exact jt_X10_faultOf_310 hd hk_6 x_1 x_2 x_3 x_4 x_5 y_0 hQ
    · have hQ := hQ.2 c_277_17
      refine x_iload_n 1 d_X10_faultOf_280 rfl rfl ?_
      refine x_if_le (tgt := 310) d_X10_faultOf_281 (by decide) (fun c_281_18 => ?_) (fun c_281_18 => ?_)
      · have hQ := hQ.1 c_281_18
        refine x_sub [0, 1, 2, 3, 4, 5] (lv2 := [(0, .ref a), (1, .int x_1), (2, .int x_2), (3, .int x_3), (4, .int x_4), (5, .int x_5)]) rfl ?_
        exact jt_X10_faultOf_310 hd hk_6 x_1 x_2 x_3 x_4 x_5 y_0 hQ
      · have hQ := hQ.2 c_281_18
        refine x_aload_n 0 d_X10_faultOf_284 rfl rfl ?_
        refine x_getf 28 gf_X10_71 gM_0 rfl d_X10_faultOf_285 ?_
        refine x_iload_n 1 d_X10_faultOf_288 rfl rfl ?_
        refine x_iconst (v := (1 : Int32)) d_X10_faultOf_289 (by decide) ?_
        refine x_isub d_X10_faultOf_290 ?_
        have hN := hQ.1
        have hQ := hQ.2
        refine x_iald gM_21 hN d_X10_faultOf_291 ?_
        refine x_iconst (v := (2 : Int32)) d_X10_faultOf_292 (by decide) ?_
        refine x_icmp_ne (tgt := 310) d_X10_faultOf_293 (by decide) (fun c_293_19 => ?_) (fun c_293_19 => ?_)
        · have hQ := hQ.1 c_293_19
          refine x_sub [0, 1, 2, 3, 4, 5] (lv2 := [(0, .ref a), (1, .int x_1), (2, .int x_2), (3, .int x_3), (4, .int x_4), (5, .int x_5)]) rfl ?_
          exact jt_X10_faultOf_310 hd hk_6 x_1 x_2 x_3 x_4 x_5 y_0 hQ
        · have hQ := hQ.2 c_293_19
          refine x_aload_n 0 d_X10_faultOf_296 rfl rfl ?_
          refine x_getf 28 gf_X10_71 gM_0 rfl d_X10_faultOf_297 ?_
          refine x_iload_n 1 d_X10_faultOf_300 rfl rfl ?_
          refine x_iconst (v := (1 : Int32)) d_X10_faultOf_301 (by decide) ?_
          refine x_isub d_X10_faultOf_302 ?_
          refine x_iconst (v := (1 : Int32)) d_X10_faultOf_303 (by decide) ?_
          have hN := hQ.1
          have hQ := hQ.2
          refine x_iast gM_21 hN d_X10_faultOf_304 ?_
          obtain ⟨s20, e_s20⟩ : ∃ z : RT, z = rI y_0 21 (upd (y_0.1 21) (x_1 - (1 : Int32)).toNatClampNeg (1 : Int32)) := ⟨_, rfl⟩
          have hQ := hQ s20 e_s20
          refine X.world (w2 := put w a 22 (shM a s20)) (by rw [e_s20]; exact sM_21) ?_
          refine x_iconst (v := (1 : Int32)) d_X10_faultOf_305 (by decide) ?_
          refine x_istore_n (lv2 := [(2, .int (1 : Int32)), (0, .ref a), (1, .int x_1), (3, .int x_3), (4, .int x_4), (5, .int x_5)]) d_X10_faultOf_306 rfl (by decide) rfl ?_
          refine x_goto (tgt := 345) d_X10_faultOf_307 (by decide) ?_
          refine x_sub [1, 2, 0, 5] (lv2 := [(0, .ref a), (1, .int x_1), (2, .int (1 : Int32)), (5, .int x_5)]) rfl ?_
          exact jt_X10_faultOf_345 hd hk_6 x_1 (1 : Int32) x_5 s20 hQ
def jp_X10_faultOf_264 (K : Int32 → RT → Prop) (k_6 : Int32 → Int32 → Int32 → RT → Prop) (x_1 : Int32) (x_5 : Int32) (y_0 : RT) : Prop := jp_X10_faultOf_345  K k_6 x_1 (1 : Int32) x_5 y_0
set_option maxHeartbeats 4000000 in
theorem jt_X10_faultOf_264 {G : GX} {l : Launch} {d : Nat} {w : HW} {a : Nat} {K : Int32 → RT → Prop} {k_6 : Int32 → Int32 → Int32 → RT → Prop} (hd : 4 ≤ d) (hk_6 : ∀ (x_1 : Int32) (x_2 : Int32) (x_3 : Int32) (y_0 : RT), k_6 x_1 x_2 x_3 y_0 → X G l m_X10_faultOf d 0 0 0 0 6 [(0, .ref a), (1, .int x_1), (2, .int x_2), (3, .int x_3)] [] (put w a 22 (shM a y_0)) (fun r w2 => ∃ (r1 : Int32), ∃ (z0 : RT), r = some (.int r1) ∧ w2 = put w a 22 (shM a z0) ∧ K r1 z0)) (x_1 : Int32) (x_5 : Int32) (y_0 : RT) (hQ : jp_X10_faultOf_264 K k_6 x_1 x_5 y_0) : X G l m_X10_faultOf d 0 0 0 0 264 [(0, .ref a), (1, .int x_1), (5, .int x_5)] [] (put w a 22 (shM a y_0)) (fun r w2 => ∃ (r1 : Int32), ∃ (z0 : RT), r = some (.int r1) ∧ w2 = put w a 22 (shM a z0) ∧ K r1 z0) := by
  refine x_iconst (v := (1 : Int32)) d_X10_faultOf_264 (by decide) ?_
  refine x_istore_n (lv2 := [(2, .int (1 : Int32)), (0, .ref a), (1, .int x_1), (5, .int x_5)]) d_X10_faultOf_265 rfl (by decide) rfl ?_
  refine x_goto (tgt := 345) d_X10_faultOf_266 (by decide) ?_
  refine x_sub [1, 2, 0, 3] (lv2 := [(0, .ref a), (1, .int x_1), (2, .int (1 : Int32)), (5, .int x_5)]) rfl ?_
  exact jt_X10_faultOf_345 hd hk_6 x_1 (1 : Int32) x_5 y_0 hQ
def jp_X10_faultOf_232 (K : Int32 → RT → Prop) (k_6 : Int32 → Int32 → Int32 → RT → Prop) (x_1 : Int32) (x_2 : Int32) (x_3 : Int32) (x_4 : Int32) (x_5 : Int32) (y_0 : RT) : Prop := ((¬ x_2 = (0 : Int32) → jp_X10_faultOf_269  K k_6 x_1 x_2 x_3 x_4 x_5 y_0) ∧ (x_2 = (0 : Int32) → ((x_4 = (43 : Int32) → jp_X10_faultOf_264  K k_6 x_1 x_5 y_0) ∧ (¬ x_4 = (43 : Int32) → ((x_4 = (45 : Int32) → jp_X10_faultOf_264  K k_6 x_1 x_5 y_0) ∧ (¬ x_4 = (45 : Int32) → ((x_4 = (42 : Int32) → jp_X10_faultOf_264  K k_6 x_1 x_5 y_0) ∧ (¬ x_4 = (42 : Int32) → ((¬ x_4 = (47 : Int32) → jp_X10_faultOf_269  K k_6 x_1 x_2 x_3 x_4 x_5 y_0) ∧ (x_4 = (47 : Int32) → jp_X10_faultOf_264  K k_6 x_1 x_5 y_0))))))))))
set_option maxHeartbeats 4000000 in
theorem jt_X10_faultOf_232 {G : GX} {l : Launch} {d : Nat} {w : HW} {a : Nat} {K : Int32 → RT → Prop} {k_6 : Int32 → Int32 → Int32 → RT → Prop} (hd : 4 ≤ d) (hk_6 : ∀ (x_1 : Int32) (x_2 : Int32) (x_3 : Int32) (y_0 : RT), k_6 x_1 x_2 x_3 y_0 → X G l m_X10_faultOf d 0 0 0 0 6 [(0, .ref a), (1, .int x_1), (2, .int x_2), (3, .int x_3)] [] (put w a 22 (shM a y_0)) (fun r w2 => ∃ (r1 : Int32), ∃ (z0 : RT), r = some (.int r1) ∧ w2 = put w a 22 (shM a z0) ∧ K r1 z0)) (x_1 : Int32) (x_2 : Int32) (x_3 : Int32) (x_4 : Int32) (x_5 : Int32) (y_0 : RT) (hQ : jp_X10_faultOf_232 K k_6 x_1 x_2 x_3 x_4 x_5 y_0) : X G l m_X10_faultOf d 0 0 0 0 232 [(0, .ref a), (1, .int x_1), (2, .int x_2), (3, .int x_3), (4, .int x_4), (5, .int x_5)] [] (put w a 22 (shM a y_0)) (fun r w2 => ∃ (r1 : Int32), ∃ (z0 : RT), r = some (.int r1) ∧ w2 = put w a 22 (shM a z0) ∧ K r1 z0) := by
  refine x_iload_n 2 d_X10_faultOf_232 rfl rfl ?_
  refine x_if_ne (tgt := 269) d_X10_faultOf_233 (by decide) (fun c_233_9 => ?_) (fun c_233_9 => ?_)
  · have hQ := hQ.1 c_233_9
    refine x_sub [0, 1, 2, 3, 4, 5] (lv2 := [(0, .ref a), (1, .int x_1), (2, .int x_2), (3, .int x_3), (4, .int x_4), (5, .int x_5)]) rfl ?_
    exact jt_X10_faultOf_269 hd hk_6 x_1 x_2 x_3 x_4 x_5 y_0 hQ
  · have hQ := hQ.2 c_233_9
    refine x_iload 4 d_X10_faultOf_236 rfl ?_
    refine x_bipush (v := (43 : Int32)) d_X10_faultOf_238 (by decide) ?_
    refine x_icmp_eq (tgt := 264) d_X10_faultOf_240 (by decide) (fun c_240_21 => ?_) (fun c_240_21 => ?_)
    · have hQ := hQ.1 c_240_21
      refine x_sub [0, 1, 5] (lv2 := [(0, .ref a), (1, .int x_1), (5, .int x_5)]) rfl ?_
      exact jt_X10_faultOf_264 hd hk_6 x_1 x_5 y_0 hQ
    · have hQ := hQ.2 c_240_21
      refine x_iload 4 d_X10_faultOf_243 rfl ?_
      refine x_bipush (v := (45 : Int32)) d_X10_faultOf_245 (by decide) ?_
      refine x_icmp_eq (tgt := 264) d_X10_faultOf_247 (by decide) (fun c_247_22 => ?_) (fun c_247_22 => ?_)
      · have hQ := hQ.1 c_247_22
        refine x_sub [0, 1, 5] (lv2 := [(0, .ref a), (1, .int x_1), (5, .int x_5)]) rfl ?_
        exact jt_X10_faultOf_264 hd hk_6 x_1 x_5 y_0 hQ
      · have hQ := hQ.2 c_247_22
        refine x_iload 4 d_X10_faultOf_250 rfl ?_
        refine x_bipush (v := (42 : Int32)) d_X10_faultOf_252 (by decide) ?_
        refine x_icmp_eq (tgt := 264) d_X10_faultOf_254 (by decide) (fun c_254_23 => ?_) (fun c_254_23 => ?_)
        · have hQ := hQ.1 c_254_23
          refine x_sub [0, 1, 5] (lv2 := [(0, .ref a), (1, .int x_1), (5, .int x_5)]) rfl ?_
          exact jt_X10_faultOf_264 hd hk_6 x_1 x_5 y_0 hQ
        · have hQ := hQ.2 c_254_23
          refine x_iload 4 d_X10_faultOf_257 rfl ?_
          refine x_bipush (v := (47 : Int32)) d_X10_faultOf_259 (by decide) ?_
          refine x_icmp_ne (tgt := 269) d_X10_faultOf_261 (by decide) (fun c_261_24 => ?_) (fun c_261_24 => ?_)
          · have hQ := hQ.1 c_261_24
            refine x_sub [0, 1, 2, 3, 4, 5] (lv2 := [(0, .ref a), (1, .int x_1), (2, .int x_2), (3, .int x_3), (4, .int x_4), (5, .int x_5)]) rfl ?_
            exact jt_X10_faultOf_269 hd hk_6 x_1 x_2 x_3 x_4 x_5 y_0 hQ
          · have hQ := hQ.2 c_261_24
            refine x_sub [0, 1, 5] (lv2 := [(0, .ref a), (1, .int x_1), (5, .int x_5)]) rfl ?_
            exact jt_X10_faultOf_264 hd hk_6 x_1 x_5 y_0 hQ
def jp_X10_faultOf_213 (K : Int32 → RT → Prop) (k_6 : Int32 → Int32 → Int32 → RT → Prop) (x_1 : Int32) (x_2 : Int32) (x_3 : Int32) (x_4 : Int32) (x_5 : Int32) (y_0 : RT) : Prop := ((x_2 = (0 : Int32) → jp_X10_faultOf_232  K k_6 x_1 x_2 x_3 x_4 x_5 y_0) ∧ (¬ x_2 = (0 : Int32) → ((¬ x_4 = (45 : Int32) → jp_X10_faultOf_232  K k_6 x_1 x_2 x_3 x_4 x_5 y_0) ∧ (x_4 = (45 : Int32) → ∀ x26 : Int32, x26 = x_3 + (1 : Int32) → jp_X10_faultOf_345  K k_6 x_1 x_2 x26 y_0))))
set_option maxHeartbeats 4000000 in
theorem jt_X10_faultOf_213 {G : GX} {l : Launch} {d : Nat} {w : HW} {a : Nat} {K : Int32 → RT → Prop} {k_6 : Int32 → Int32 → Int32 → RT → Prop} (hd : 4 ≤ d) (hk_6 : ∀ (x_1 : Int32) (x_2 : Int32) (x_3 : Int32) (y_0 : RT), k_6 x_1 x_2 x_3 y_0 → X G l m_X10_faultOf d 0 0 0 0 6 [(0, .ref a), (1, .int x_1), (2, .int x_2), (3, .int x_3)] [] (put w a 22 (shM a y_0)) (fun r w2 => ∃ (r1 : Int32), ∃ (z0 : RT), r = some (.int r1) ∧ w2 = put w a 22 (shM a z0) ∧ K r1 z0)) (x_1 : Int32) (x_2 : Int32) (x_3 : Int32) (x_4 : Int32) (x_5 : Int32) (y_0 : RT) (hQ : jp_X10_faultOf_213 K k_6 x_1 x_2 x_3 x_4 x_5 y_0) : X G l m_X10_faultOf d 0 0 0 0 213 [(0, .ref a), (1, .int x_1), (2, .int x_2), (3, .int x_3), (4, .int x_4), (5, .int x_5)] [] (put w a 22 (shM a y_0)) (fun r w2 => ∃ (r1 : Int32), ∃ (z0 : RT), r = some (.int r1) ∧ w2 = put w a 22 (shM a z0) ∧ K r1 z0) := by
  refine x_iload_n 2 d_X10_faultOf_213 rfl rfl ?_
  refine x_if_eq (tgt := 232) d_X10_faultOf_214 (by decide) (fun c_214_8 => ?_) (fun c_214_8 => ?_)
  · have hQ := hQ.1 c_214_8
    refine x_sub [0, 1, 2, 3, 4, 5] (lv2 := [(0, .ref a), (1, .int x_1), (2, .int x_2), (3, .int x_3), (4, .int x_4), (5, .int x_5)]) rfl ?_
    exact jt_X10_faultOf_232 hd hk_6 x_1 x_2 x_3 x_4 x_5 y_0 hQ
  · have hQ := hQ.2 c_214_8
    refine x_iload 4 d_X10_faultOf_217 rfl ?_
    refine x_bipush (v := (45 : Int32)) d_X10_faultOf_219 (by decide) ?_
    refine x_icmp_ne (tgt := 232) d_X10_faultOf_221 (by decide) (fun c_221_25 => ?_) (fun c_221_25 => ?_)
    · have hQ := hQ.1 c_221_25
      refine x_sub [0, 1, 2, 3, 4, 5] (lv2 := [(0, .ref a), (1, .int x_1), (2, .int x_2), (3, .int x_3), (4, .int x_4), (5, .int x_5)]) rfl ?_
      exact jt_X10_faultOf_232 hd hk_6 x_1 x_2 x_3 x_4 x_5 y_0 hQ
    · have hQ := hQ.2 c_221_25
      refine x_iload_n 3 d_X10_faultOf_224 rfl rfl ?_
      refine x_iconst (v := (1 : Int32)) d_X10_faultOf_225 (by decide) ?_
      refine x_iadd d_X10_faultOf_226 ?_
      refine x_topi (fun x26 e_x26 => ?_)
      have hQ := hQ x26 e_x26
      refine x_istore (lv2 := [(5, .int x26), (0, .ref a), (1, .int x_1), (2, .int x_2), (3, .int x_3), (4, .int x_4)]) d_X10_faultOf_227 (by decide) rfl ?_
      refine x_goto (tgt := 345) d_X10_faultOf_229 (by decide) ?_
      refine x_sub [1, 2, 3, 0] (lv2 := [(0, .ref a), (1, .int x_1), (2, .int x_2), (5, .int x26)]) rfl ?_
      exact jt_X10_faultOf_345 hd hk_6 x_1 x_2 x26 y_0 hQ
def jp_X10_faultOf_207 (K : Int32 → RT → Prop) (k_6 : Int32 → Int32 → Int32 → RT → Prop) (x_1 : Int32) (x_2 : Int32) (t_0 : Int32) (t_1 : Int32) (y_0 : RT) : Prop := ∀ x35 : Int32, x35 = t_1 + t_0 → jp_X10_faultOf_345  K k_6 x_1 x_2 x35 y_0
set_option maxHeartbeats 4000000 in
theorem jt_X10_faultOf_207 {G : GX} {l : Launch} {d : Nat} {w : HW} {a : Nat} {K : Int32 → RT → Prop} {k_6 : Int32 → Int32 → Int32 → RT → Prop} (hd : 4 ≤ d) (hk_6 : ∀ (x_1 : Int32) (x_2 : Int32) (x_3 : Int32) (y_0 : RT), k_6 x_1 x_2 x_3 y_0 → X G l m_X10_faultOf d 0 0 0 0 6 [(0, .ref a), (1, .int x_1), (2, .int x_2), (3, .int x_3)] [] (put w a 22 (shM a y_0)) (fun r w2 => ∃ (r1 : Int32), ∃ (z0 : RT), r = some (.int r1) ∧ w2 = put w a 22 (shM a z0) ∧ K r1 z0)) (x_1 : Int32) (x_2 : Int32) (t_0 : Int32) (t_1 : Int32) (y_0 : RT) (hQ : jp_X10_faultOf_207 K k_6 x_1 x_2 t_0 t_1 y_0) : X G l m_X10_faultOf d 0 0 0 0 207 [(0, .ref a), (1, .int x_1), (2, .int x_2)] [.int t_0, .int t_1] (put w a 22 (shM a y_0)) (fun r w2 => ∃ (r1 : Int32), ∃ (z0 : RT), r = some (.int r1) ∧ w2 = put w a 22 (shM a z0) ∧ K r1 z0) := by
  refine x_iadd d_X10_faultOf_207 ?_
  refine x_topi (fun x35 e_x35 => ?_)
  have hQ := hQ x35 e_x35
  refine x_istore (lv2 := [(5, .int x35), (0, .ref a), (1, .int x_1), (2, .int x_2)]) d_X10_faultOf_208 (by decide) rfl ?_
  refine x_goto (tgt := 345) d_X10_faultOf_210 (by decide) ?_
  refine x_sub [1, 2, 3, 0] (lv2 := [(0, .ref a), (1, .int x_1), (2, .int x_2), (5, .int x35)]) rfl ?_
  exact jt_X10_faultOf_345 hd hk_6 x_1 x_2 x35 y_0 hQ
def jp_X10_faultOf_191 (K : Int32 → RT → Prop) (k_6 : Int32 → Int32 → Int32 → RT → Prop) (x_1 : Int32) (x_2 : Int32) (x_5 : Int32) (t_0 : Int32) (t_1 : Int32) (y_0 : RT) : Prop := vp_in t_1 160 ∧ ∀ s32 : RT, s32 = rI y_0 21 (upd (y_0.1 21) t_1.toNatClampNeg t_0) → ∀ x33 : Int32, x33 = x_1 + (1 : Int32) → ((x_5 < (0 : Int32) → jp_X10_faultOf_207  K k_6 x33 x_2 (0 : Int32) x_5 s32) ∧ (¬ x_5 < (0 : Int32) → jp_X10_faultOf_207  K k_6 x33 x_2 (1 : Int32) x_5 s32))
set_option maxHeartbeats 4000000 in
theorem jt_X10_faultOf_191 {G : GX} {l : Launch} {d : Nat} {w : HW} {a : Nat} {K : Int32 → RT → Prop} {k_6 : Int32 → Int32 → Int32 → RT → Prop} (hd : 4 ≤ d) (hk_6 : ∀ (x_1 : Int32) (x_2 : Int32) (x_3 : Int32) (y_0 : RT), k_6 x_1 x_2 x_3 y_0 → X G l m_X10_faultOf d 0 0 0 0 6 [(0, .ref a), (1, .int x_1), (2, .int x_2), (3, .int x_3)] [] (put w a 22 (shM a y_0)) (fun r w2 => ∃ (r1 : Int32), ∃ (z0 : RT), r = some (.int r1) ∧ w2 = put w a 22 (shM a z0) ∧ K r1 z0)) (x_1 : Int32) (x_2 : Int32) (x_5 : Int32) (t_0 : Int32) (t_1 : Int32) (y_0 : RT) (hQ : jp_X10_faultOf_191 K k_6 x_1 x_2 x_5 t_0 t_1 y_0) : X G l m_X10_faultOf d 0 0 0 0 191 [(0, .ref a), (1, .int x_1), (2, .int x_2), (5, .int x_5)] [.int t_0, .int t_1, .ref (a + 21)] (put w a 22 (shM a y_0)) (fun r w2 => ∃ (r1 : Int32), ∃ (z0 : RT), r = some (.int r1) ∧ w2 = put w a 22 (shM a z0) ∧ K r1 z0) := by
  have hN := hQ.1
  have hQ := hQ.2
  refine x_iast gM_21 hN d_X10_faultOf_191 ?_
  obtain ⟨s32, e_s32⟩ : ∃ z : RT, z = rI y_0 21 (upd (y_0.1 21) t_1.toNatClampNeg t_0) := ⟨_, rfl⟩
  have hQ := hQ s32 e_s32
  refine X.world (w2 := put w a 22 (shM a s32)) (by rw [e_s32]; exact sM_21) ?_
  obtain ⟨x33, e_x33⟩ : ∃ z : Int32, z = x_1 + (1 : Int32) := ⟨_, rfl⟩
  have hQ := hQ x33 e_x33
  refine x_iinc (v := x33) (lv2 := [(1, .int x33), (0, .ref a), (2, .int x_2), (5, .int x_5)]) 1 d_X10_faultOf_192 rfl (by rw [e_x33]; rfl) (by decide) rfl ?_
  refine x_iload 3 d_X10_faultOf_195 rfl ?_
  refine x_iload 3 d_X10_faultOf_197 rfl ?_
  refine x_if_lt (tgt := 206) d_X10_faultOf_199 (by decide) (fun c_199_34 => ?_) (fun c_199_34 => ?_)
  · have hQ := hQ.1 c_199_34
    refine x_iconst (v := (0 : Int32)) d_X10_faultOf_206 (by decide) ?_
    refine x_sub [1, 0, 2] (lv2 := [(0, .ref a), (1, .int x33), (2, .int x_2)]) rfl ?_
    exact jt_X10_faultOf_207 hd hk_6 x33 x_2 (0 : Int32) x_5 s32 hQ
  · have hQ := hQ.2 c_199_34
    refine x_iconst (v := (1 : Int32)) d_X10_faultOf_202 (by decide) ?_
    refine x_goto (tgt := 207) d_X10_faultOf_203 (by decide) ?_
    refine x_sub [1, 0, 2] (lv2 := [(0, .ref a), (1, .int x33), (2, .int x_2)]) rfl ?_
    exact jt_X10_faultOf_207 hd hk_6 x33 x_2 (1 : Int32) x_5 s32 hQ
def jp_X10_faultOf_174 (K : Int32 → RT → Prop) (k_6 : Int32 → Int32 → Int32 → RT → Prop) (x_1 : Int32) (x_2 : Int32) (x_4 : Int32) (x_5 : Int32) (y_0 : RT) : Prop := ((¬ x_4 = (109 : Int32) → jp_X10_faultOf_191  K k_6 x_1 x_2 x_5 (1 : Int32) x_1 y_0) ∧ (x_4 = (109 : Int32) → jp_X10_faultOf_191  K k_6 x_1 x_2 x_5 (2 : Int32) x_1 y_0))
set_option maxHeartbeats 4000000 in
theorem jt_X10_faultOf_174 {G : GX} {l : Launch} {d : Nat} {w : HW} {a : Nat} {K : Int32 → RT → Prop} {k_6 : Int32 → Int32 → Int32 → RT → Prop} (hd : 4 ≤ d) (hk_6 : ∀ (x_1 : Int32) (x_2 : Int32) (x_3 : Int32) (y_0 : RT), k_6 x_1 x_2 x_3 y_0 → X G l m_X10_faultOf d 0 0 0 0 6 [(0, .ref a), (1, .int x_1), (2, .int x_2), (3, .int x_3)] [] (put w a 22 (shM a y_0)) (fun r w2 => ∃ (r1 : Int32), ∃ (z0 : RT), r = some (.int r1) ∧ w2 = put w a 22 (shM a z0) ∧ K r1 z0)) (x_1 : Int32) (x_2 : Int32) (x_4 : Int32) (x_5 : Int32) (y_0 : RT) (hQ : jp_X10_faultOf_174 K k_6 x_1 x_2 x_4 x_5 y_0) : X G l m_X10_faultOf d 0 0 0 0 174 [(0, .ref a), (1, .int x_1), (2, .int x_2), (4, .int x_4), (5, .int x_5)] [] (put w a 22 (shM a y_0)) (fun r w2 => ∃ (r1 : Int32), ∃ (z0 : RT), r = some (.int r1) ∧ w2 = put w a 22 (shM a z0) ∧ K r1 z0) := by
  refine x_aload_n 0 d_X10_faultOf_174 rfl rfl ?_
  refine x_getf 28 gf_X10_71 gM_0 rfl d_X10_faultOf_175 ?_
  refine x_iload_n 1 d_X10_faultOf_178 rfl rfl ?_
  refine x_iload 3 d_X10_faultOf_179 rfl ?_
  refine x_bipush (v := (109 : Int32)) d_X10_faultOf_181 (by decide) ?_
  refine x_icmp_ne (tgt := 190) d_X10_faultOf_183 (by decide) (fun c_183_31 => ?_) (fun c_183_31 => ?_)
  · have hQ := hQ.1 c_183_31
    refine x_iconst (v := (1 : Int32)) d_X10_faultOf_190 (by decide) ?_
    refine x_sub [0, 1, 2, 4] (lv2 := [(0, .ref a), (1, .int x_1), (2, .int x_2), (5, .int x_5)]) rfl ?_
    exact jt_X10_faultOf_191 hd hk_6 x_1 x_2 x_5 (1 : Int32) x_1 y_0 hQ
  · have hQ := hQ.2 c_183_31
    refine x_iconst (v := (2 : Int32)) d_X10_faultOf_186 (by decide) ?_
    refine x_goto (tgt := 191) d_X10_faultOf_187 (by decide) ?_
    refine x_sub [0, 1, 2, 4] (lv2 := [(0, .ref a), (1, .int x_1), (2, .int x_2), (5, .int x_5)]) rfl ?_
    exact jt_X10_faultOf_191 hd hk_6 x_1 x_2 x_5 (2 : Int32) x_1 y_0 hQ
def jp_X10_faultOf_159 (K : Int32 → RT → Prop) (k_6 : Int32 → Int32 → Int32 → RT → Prop) (x_1 : Int32) (x_2 : Int32) (x_4 : Int32) (x_5 : Int32) (t_0 : Int32) (y_0 : RT) : Prop := ((x_5 < (0 : Int32) → jp_X10_faultOf_174  K k_6 x_1 x_2 x_4 x_5 y_0) ∧ (¬ x_5 < (0 : Int32) → ((¬ t_0 = (0 : Int32) → jp_X10_faultOf_174  K k_6 x_1 x_2 x_4 x_5 y_0) ∧ (t_0 = (0 : Int32) → K x_5 y_0))))
set_option maxHeartbeats 4000000 in
theorem jt_X10_faultOf_159 {G : GX} {l : Launch} {d : Nat} {w : HW} {a : Nat} {K : Int32 → RT → Prop} {k_6 : Int32 → Int32 → Int32 → RT → Prop} (hd : 4 ≤ d) (hk_6 : ∀ (x_1 : Int32) (x_2 : Int32) (x_3 : Int32) (y_0 : RT), k_6 x_1 x_2 x_3 y_0 → X G l m_X10_faultOf d 0 0 0 0 6 [(0, .ref a), (1, .int x_1), (2, .int x_2), (3, .int x_3)] [] (put w a 22 (shM a y_0)) (fun r w2 => ∃ (r1 : Int32), ∃ (z0 : RT), r = some (.int r1) ∧ w2 = put w a 22 (shM a z0) ∧ K r1 z0)) (x_1 : Int32) (x_2 : Int32) (x_4 : Int32) (x_5 : Int32) (t_0 : Int32) (y_0 : RT) (hQ : jp_X10_faultOf_159 K k_6 x_1 x_2 x_4 x_5 t_0 y_0) : X G l m_X10_faultOf d 0 0 0 0 159 [(0, .ref a), (1, .int x_1), (2, .int x_2), (4, .int x_4), (5, .int x_5)] [.int t_0] (put w a 22 (shM a y_0)) (fun r w2 => ∃ (r1 : Int32), ∃ (z0 : RT), r = some (.int r1) ∧ w2 = put w a 22 (shM a z0) ∧ K r1 z0) := by
  refine x_istore (lv2 := [(6, .int t_0), (0, .ref a), (1, .int x_1), (2, .int x_2), (4, .int x_4), (5, .int x_5)]) d_X10_faultOf_159 (by decide) rfl ?_
  refine x_iload 5 d_X10_faultOf_161 rfl ?_
  refine x_if_lt (tgt := 174) d_X10_faultOf_163 (by decide) (fun c_163_30 => ?_) (fun c_163_30 => ?_)
  · have hQ := hQ.1 c_163_30
    refine x_sub [1, 2, 3, 4, 5] (lv2 := [(0, .ref a), (1, .int x_1), (2, .int x_2), (4, .int x_4), (5, .int x_5)]) rfl ?_
    exact jt_X10_faultOf_174 hd hk_6 x_1 x_2 x_4 x_5 y_0 hQ
  · have hQ := hQ.2 c_163_30
    refine x_iload 0 d_X10_faultOf_166 rfl ?_
    refine x_if_ne (tgt := 174) d_X10_faultOf_168 (by decide) (fun c_168_36 => ?_) (fun c_168_36 => ?_)
    · have hQ := hQ.1 c_168_36
      refine x_sub [1, 2, 3, 4, 5] (lv2 := [(0, .ref a), (1, .int x_1), (2, .int x_2), (4, .int x_4), (5, .int x_5)]) rfl ?_
      exact jt_X10_faultOf_174 hd hk_6 x_1 x_2 x_4 x_5 y_0 hQ
    · have hQ := hQ.2 c_168_36
      refine x_iload 5 d_X10_faultOf_171 rfl ?_
      exact x_iret (retI d_X10_faultOf_173 rfl) ⟨_, _, rfl, rfl, hQ⟩
def jp_X10_faultOf_158 (K : Int32 → RT → Prop) (k_6 : Int32 → Int32 → Int32 → RT → Prop) (x_1 : Int32) (x_2 : Int32) (x_4 : Int32) (x_5 : Int32) (y_0 : RT) : Prop := jp_X10_faultOf_159  K k_6 x_1 x_2 x_4 x_5 (0 : Int32) y_0
set_option maxHeartbeats 4000000 in
theorem jt_X10_faultOf_158 {G : GX} {l : Launch} {d : Nat} {w : HW} {a : Nat} {K : Int32 → RT → Prop} {k_6 : Int32 → Int32 → Int32 → RT → Prop} (hd : 4 ≤ d) (hk_6 : ∀ (x_1 : Int32) (x_2 : Int32) (x_3 : Int32) (y_0 : RT), k_6 x_1 x_2 x_3 y_0 → X G l m_X10_faultOf d 0 0 0 0 6 [(0, .ref a), (1, .int x_1), (2, .int x_2), (3, .int x_3)] [] (put w a 22 (shM a y_0)) (fun r w2 => ∃ (r1 : Int32), ∃ (z0 : RT), r = some (.int r1) ∧ w2 = put w a 22 (shM a z0) ∧ K r1 z0)) (x_1 : Int32) (x_2 : Int32) (x_4 : Int32) (x_5 : Int32) (y_0 : RT) (hQ : jp_X10_faultOf_158 K k_6 x_1 x_2 x_4 x_5 y_0) : X G l m_X10_faultOf d 0 0 0 0 158 [(0, .ref a), (1, .int x_1), (2, .int x_2), (4, .int x_4), (5, .int x_5)] [] (put w a 22 (shM a y_0)) (fun r w2 => ∃ (r1 : Int32), ∃ (z0 : RT), r = some (.int r1) ∧ w2 = put w a 22 (shM a z0) ∧ K r1 z0) := by
  refine x_iconst (v := (0 : Int32)) d_X10_faultOf_158 (by decide) ?_
  refine x_sub [0, 1, 2, 3, 4] (lv2 := [(0, .ref a), (1, .int x_1), (2, .int x_2), (4, .int x_4), (5, .int x_5)]) rfl ?_
  exact jt_X10_faultOf_159 hd hk_6 x_1 x_2 x_4 x_5 (0 : Int32) y_0 hQ
def jp_X10_faultOf_130 (K : Int32 → RT → Prop) (k_6 : Int32 → Int32 → Int32 → RT → Prop) (x_1 : Int32) (x_2 : Int32) (x_4 : Int32) (t_0 : Int32) (y_0 : RT) : Prop := ((t_0 < (0 : Int32) → jp_X10_faultOf_158  K k_6 x_1 x_2 x_4 t_0 y_0) ∧ (¬ t_0 < (0 : Int32) → wp_X10_letter y_0 t_0 (fun (r37 : Int32) => ((¬ r37 = (40 : Int32) → jp_X10_faultOf_158  K k_6 x_1 x_2 x_4 t_0 y_0) ∧ (r37 = (40 : Int32) → (((6 : Int32) ≤ x_1 → jp_X10_faultOf_158  K k_6 x_1 x_2 x_4 t_0 y_0) ∧ (¬ (6 : Int32) ≤ x_1 → jp_X10_faultOf_159  K k_6 x_1 x_2 x_4 t_0 (1 : Int32) y_0)))))))
set_option maxHeartbeats 4000000 in
theorem jt_X10_faultOf_130 {G : GX} {l : Launch} {d : Nat} {w : HW} {a : Nat} {K : Int32 → RT → Prop} {k_6 : Int32 → Int32 → Int32 → RT → Prop} (hd : 4 ≤ d) (hk_6 : ∀ (x_1 : Int32) (x_2 : Int32) (x_3 : Int32) (y_0 : RT), k_6 x_1 x_2 x_3 y_0 → X G l m_X10_faultOf d 0 0 0 0 6 [(0, .ref a), (1, .int x_1), (2, .int x_2), (3, .int x_3)] [] (put w a 22 (shM a y_0)) (fun r w2 => ∃ (r1 : Int32), ∃ (z0 : RT), r = some (.int r1) ∧ w2 = put w a 22 (shM a z0) ∧ K r1 z0)) (x_1 : Int32) (x_2 : Int32) (x_4 : Int32) (t_0 : Int32) (y_0 : RT) (hQ : jp_X10_faultOf_130 K k_6 x_1 x_2 x_4 t_0 y_0) : X G l m_X10_faultOf d 0 0 0 0 130 [(0, .ref a), (1, .int x_1), (2, .int x_2), (4, .int x_4)] [.int t_0] (put w a 22 (shM a y_0)) (fun r w2 => ∃ (r1 : Int32), ∃ (z0 : RT), r = some (.int r1) ∧ w2 = put w a 22 (shM a z0) ∧ K r1 z0) := by
  refine x_istore (lv2 := [(5, .int t_0), (0, .ref a), (1, .int x_1), (2, .int x_2), (4, .int x_4)]) d_X10_faultOf_130 (by decide) rfl ?_
  refine x_iload 0 d_X10_faultOf_132 rfl ?_
  refine x_if_lt (tgt := 158) d_X10_faultOf_134 (by decide) (fun c_134_29 => ?_) (fun c_134_29 => ?_)
  · have hQ := hQ.1 c_134_29
    refine x_sub [1, 2, 3, 4, 0] (lv2 := [(0, .ref a), (1, .int x_1), (2, .int x_2), (4, .int x_4), (5, .int t_0)]) rfl ?_
    exact jt_X10_faultOf_158 hd hk_6 x_1 x_2 x_4 t_0 y_0 hQ
  · have hQ := hQ.2 c_134_29
    refine x_aload_n 1 d_X10_faultOf_137 rfl rfl ?_
    refine x_iload 0 d_X10_faultOf_138 rfl ?_
    refine x_invV (rest := []) (d' := d - 1) (mc' := 0) (ms' := 0) [.int t_0] k_X10_letter lk_X10_101 gM_0 rfl rfl rfl (Nat.le_of_ble_eq_true rfl) (by omega) (Nat.le_refl _) (Nat.le_refl _) d_X10_faultOf_140 ((sp_X10_letter (d := d - 1) (by omega) hQ).mono (fun r w2 hr => ?_))
    obtain ⟨r37, rfl, rfl, hQ⟩ := hr
    refine x_bipush (v := (40 : Int32)) d_X10_faultOf_143 (by decide) ?_
    refine x_icmp_ne (tgt := 158) d_X10_faultOf_145 (by decide) (fun c_145_38 => ?_) (fun c_145_38 => ?_)
    · have hQ := hQ.1 c_145_38
      refine x_sub [1, 2, 3, 4, 0] (lv2 := [(0, .ref a), (1, .int x_1), (2, .int x_2), (4, .int x_4), (5, .int t_0)]) rfl ?_
      exact jt_X10_faultOf_158 hd hk_6 x_1 x_2 x_4 t_0 y_0 hQ
    · have hQ := hQ.2 c_145_38
      refine x_iload_n 2 d_X10_faultOf_148 rfl rfl ?_
      refine x_bipush (v := (6 : Int32)) d_X10_faultOf_149 (by decide) ?_
      refine x_icmp_ge (tgt := 158) d_X10_faultOf_151 (by decide) (fun c_151_39 => ?_) (fun c_151_39 => ?_)
      · have hQ := hQ.1 c_151_39
        refine x_sub [1, 2, 3, 4, 0] (lv2 := [(0, .ref a), (1, .int x_1), (2, .int x_2), (4, .int x_4), (5, .int t_0)]) rfl ?_
        exact jt_X10_faultOf_158 hd hk_6 x_1 x_2 x_4 t_0 y_0 hQ
      · have hQ := hQ.2 c_151_39
        refine x_iconst (v := (1 : Int32)) d_X10_faultOf_154 (by decide) ?_
        refine x_goto (tgt := 159) d_X10_faultOf_155 (by decide) ?_
        refine x_sub [1, 2, 3, 4, 0] (lv2 := [(0, .ref a), (1, .int x_1), (2, .int x_2), (4, .int x_4), (5, .int t_0)]) rfl ?_
        exact jt_X10_faultOf_159 hd hk_6 x_1 x_2 x_4 t_0 (1 : Int32) y_0 hQ
def jp_X10_faultOf_114 (K : Int32 → RT → Prop) (k_6 : Int32 → Int32 → Int32 → RT → Prop) (x_1 : Int32) (x_2 : Int32) (x_3 : Int32) (x_4 : Int32) (y_0 : RT) : Prop := ((¬ x_4 = (109 : Int32) → jp_X10_faultOf_130  K k_6 x_1 x_2 x_4 x_3 y_0) ∧ (x_4 = (109 : Int32) → wp_X10_wordEnd y_0 x_3 (fun (r40 : Int32) => jp_X10_faultOf_130  K k_6 x_1 x_2 x_4 r40 y_0)))
set_option maxHeartbeats 4000000 in
theorem jt_X10_faultOf_114 {G : GX} {l : Launch} {d : Nat} {w : HW} {a : Nat} {K : Int32 → RT → Prop} {k_6 : Int32 → Int32 → Int32 → RT → Prop} (hd : 4 ≤ d) (hk_6 : ∀ (x_1 : Int32) (x_2 : Int32) (x_3 : Int32) (y_0 : RT), k_6 x_1 x_2 x_3 y_0 → X G l m_X10_faultOf d 0 0 0 0 6 [(0, .ref a), (1, .int x_1), (2, .int x_2), (3, .int x_3)] [] (put w a 22 (shM a y_0)) (fun r w2 => ∃ (r1 : Int32), ∃ (z0 : RT), r = some (.int r1) ∧ w2 = put w a 22 (shM a z0) ∧ K r1 z0)) (x_1 : Int32) (x_2 : Int32) (x_3 : Int32) (x_4 : Int32) (y_0 : RT) (hQ : jp_X10_faultOf_114 K k_6 x_1 x_2 x_3 x_4 y_0) : X G l m_X10_faultOf d 0 0 0 0 114 [(0, .ref a), (1, .int x_1), (2, .int x_2), (3, .int x_3), (4, .int x_4)] [] (put w a 22 (shM a y_0)) (fun r w2 => ∃ (r1 : Int32), ∃ (z0 : RT), r = some (.int r1) ∧ w2 = put w a 22 (shM a z0) ∧ K r1 z0) := by
  refine x_iload 4 d_X10_faultOf_114 rfl ?_
  refine x_bipush (v := (109 : Int32)) d_X10_faultOf_116 (by decide) ?_
  refine x_icmp_ne (tgt := 129) d_X10_faultOf_118 (by decide) (fun c_118_28 => ?_) (fun c_118_28 => ?_)
  · have hQ := hQ.1 c_118_28
    refine x_iload_n 3 d_X10_faultOf_129 rfl rfl ?_
    refine x_sub [0, 1, 2, 4] (lv2 := [(0, .ref a), (1, .int x_1), (2, .int x_2), (4, .int x_4)]) rfl ?_
    exact jt_X10_faultOf_130 hd hk_6 x_1 x_2 x_4 x_3 y_0 hQ
  · have hQ := hQ.2 c_118_28
    refine x_aload_n 0 d_X10_faultOf_121 rfl rfl ?_
    refine x_iload_n 3 d_X10_faultOf_122 rfl rfl ?_
    refine x_invV (rest := []) (d' := d - 1) (mc' := 0) (ms' := 0) [.int x_3] k_X10_wordEnd lk_X10_122 gM_0 rfl rfl rfl (Nat.le_of_ble_eq_true rfl) (by omega) (Nat.le_refl _) (Nat.le_refl _) d_X10_faultOf_123 ((sp_X10_wordEnd (d := d - 1) (by omega) hQ).mono (fun r w2 hr => ?_))
    obtain ⟨r40, rfl, rfl, hQ⟩ := hr
    refine x_goto (tgt := 130) d_X10_faultOf_126 (by decide) ?_
    refine x_sub [0, 1, 2, 4] (lv2 := [(0, .ref a), (1, .int x_1), (2, .int x_2), (4, .int x_4)]) rfl ?_
    exact jt_X10_faultOf_130 hd hk_6 x_1 x_2 x_4 r40 y_0 hQ
def jp_X10_faultOf_96 (K : Int32 → RT → Prop) (k_6 : Int32 → Int32 → Int32 → RT → Prop) (x_1 : Int32) (x_2 : Int32) (x_3 : Int32) (x_4 : Int32) (x_5 : Int32) (y_0 : RT) : Prop := ((x_2 = (0 : Int32) → jp_X10_faultOf_213  K k_6 x_1 x_2 x_3 x_4 x_5 y_0) ∧ (¬ x_2 = (0 : Int32) → ((x_4 = (40 : Int32) → jp_X10_faultOf_114  K k_6 x_1 x_2 x_3 x_4 y_0) ∧ (¬ x_4 = (40 : Int32) → ((¬ x_4 = (109 : Int32) → jp_X10_faultOf_213  K k_6 x_1 x_2 x_3 x_4 x_5 y_0) ∧ (x_4 = (109 : Int32) → jp_X10_faultOf_114  K k_6 x_1 x_2 x_3 x_4 y_0))))))
set_option maxHeartbeats 4000000 in
theorem jt_X10_faultOf_96 {G : GX} {l : Launch} {d : Nat} {w : HW} {a : Nat} {K : Int32 → RT → Prop} {k_6 : Int32 → Int32 → Int32 → RT → Prop} (hd : 4 ≤ d) (hk_6 : ∀ (x_1 : Int32) (x_2 : Int32) (x_3 : Int32) (y_0 : RT), k_6 x_1 x_2 x_3 y_0 → X G l m_X10_faultOf d 0 0 0 0 6 [(0, .ref a), (1, .int x_1), (2, .int x_2), (3, .int x_3)] [] (put w a 22 (shM a y_0)) (fun r w2 => ∃ (r1 : Int32), ∃ (z0 : RT), r = some (.int r1) ∧ w2 = put w a 22 (shM a z0) ∧ K r1 z0)) (x_1 : Int32) (x_2 : Int32) (x_3 : Int32) (x_4 : Int32) (x_5 : Int32) (y_0 : RT) (hQ : jp_X10_faultOf_96 K k_6 x_1 x_2 x_3 x_4 x_5 y_0) : X G l m_X10_faultOf d 0 0 0 0 96 [(0, .ref a), (1, .int x_1), (2, .int x_2), (3, .int x_3), (4, .int x_4), (5, .int x_5)] [] (put w a 22 (shM a y_0)) (fun r w2 => ∃ (r1 : Int32), ∃ (z0 : RT), r = some (.int r1) ∧ w2 = put w a 22 (shM a z0) ∧ K r1 z0) := by
  refine x_iload_n 2 d_X10_faultOf_96 rfl rfl ?_
  refine x_if_eq (tgt := 213) d_X10_faultOf_97 (by decide) (fun c_97_7 => ?_) (fun c_97_7 => ?_)
  · have hQ := hQ.1 c_97_7
    refine x_sub [0, 1, 2, 3, 4, 5] (lv2 := [(0, .ref a), (1, .int x_1), (2, .int x_2), (3, .int x_3), (4, .int x_4), (5, .int x_5)]) rfl ?_
    exact jt_X10_faultOf_213 hd hk_6 x_1 x_2 x_3 x_4 x_5 y_0 hQ
  · have hQ := hQ.2 c_97_7
    refine x_iload 4 d_X10_faultOf_100 rfl ?_
    refine x_bipush (v := (40 : Int32)) d_X10_faultOf_102 (by decide) ?_
    refine x_icmp_eq (tgt := 114) d_X10_faultOf_104 (by decide) (fun c_104_27 => ?_) (fun c_104_27 => ?_)
    · have hQ := hQ.1 c_104_27
      refine x_sub [0, 1, 2, 3, 4] (lv2 := [(0, .ref a), (1, .int x_1), (2, .int x_2), (3, .int x_3), (4, .int x_4)]) rfl ?_
      exact jt_X10_faultOf_114 hd hk_6 x_1 x_2 x_3 x_4 y_0 hQ
    · have hQ := hQ.2 c_104_27
      refine x_iload 4 d_X10_faultOf_107 rfl ?_
      refine x_bipush (v := (109 : Int32)) d_X10_faultOf_109 (by decide) ?_
      refine x_icmp_ne (tgt := 213) d_X10_faultOf_111 (by decide) (fun c_111_41 => ?_) (fun c_111_41 => ?_)
      · have hQ := hQ.1 c_111_41
        refine x_sub [0, 1, 2, 3, 4, 5] (lv2 := [(0, .ref a), (1, .int x_1), (2, .int x_2), (3, .int x_3), (4, .int x_4), (5, .int x_5)]) rfl ?_
        exact jt_X10_faultOf_213 hd hk_6 x_1 x_2 x_3 x_4 x_5 y_0 hQ
      · have hQ := hQ.2 c_111_41
        refine x_sub [0, 1, 2, 3, 4] (lv2 := [(0, .ref a), (1, .int x_1), (2, .int x_2), (3, .int x_3), (4, .int x_4)]) rfl ?_
        exact jt_X10_faultOf_114 hd hk_6 x_1 x_2 x_3 x_4 y_0 hQ
def jp_X10_faultOf_89 (K : Int32 → RT → Prop) (k_6 : Int32 → Int32 → Int32 → RT → Prop) (x_1 : Int32) (t_0 : Int32) (y_0 : RT) : Prop := jp_X10_faultOf_345  K k_6 x_1 (0 : Int32) t_0 y_0
set_option maxHeartbeats 4000000 in
theorem jt_X10_faultOf_89 {G : GX} {l : Launch} {d : Nat} {w : HW} {a : Nat} {K : Int32 → RT → Prop} {k_6 : Int32 → Int32 → Int32 → RT → Prop} (hd : 4 ≤ d) (hk_6 : ∀ (x_1 : Int32) (x_2 : Int32) (x_3 : Int32) (y_0 : RT), k_6 x_1 x_2 x_3 y_0 → X G l m_X10_faultOf d 0 0 0 0 6 [(0, .ref a), (1, .int x_1), (2, .int x_2), (3, .int x_3)] [] (put w a 22 (shM a y_0)) (fun r w2 => ∃ (r1 : Int32), ∃ (z0 : RT), r = some (.int r1) ∧ w2 = put w a 22 (shM a z0) ∧ K r1 z0)) (x_1 : Int32) (t_0 : Int32) (y_0 : RT) (hQ : jp_X10_faultOf_89 K k_6 x_1 t_0 y_0) : X G l m_X10_faultOf d 0 0 0 0 89 [(0, .ref a), (1, .int x_1)] [.int t_0] (put w a 22 (shM a y_0)) (fun r w2 => ∃ (r1 : Int32), ∃ (z0 : RT), r = some (.int r1) ∧ w2 = put w a 22 (shM a z0) ∧ K r1 z0) := by
  refine x_istore (lv2 := [(5, .int t_0), (0, .ref a), (1, .int x_1)]) d_X10_faultOf_89 (by decide) rfl ?_
  refine x_iconst (v := (0 : Int32)) d_X10_faultOf_91 (by decide) ?_
  refine x_istore_n (lv2 := [(2, .int (0 : Int32)), (5, .int t_0), (0, .ref a), (1, .int x_1)]) d_X10_faultOf_92 rfl (by decide) rfl ?_
  refine x_goto (tgt := 345) d_X10_faultOf_93 (by decide) ?_
  refine x_sub [2, 3, 0, 1] (lv2 := [(0, .ref a), (1, .int x_1), (2, .int (0 : Int32)), (5, .int t_0)]) rfl ?_
  exact jt_X10_faultOf_345 hd hk_6 x_1 (0 : Int32) t_0 y_0 hQ
def jp_X10_faultOf_54 (K : Int32 → RT → Prop) (k_6 : Int32 → Int32 → Int32 → RT → Prop) (x_1 : Int32) (x_3 : Int32) (x_4 : Int32) (y_0 : RT) : Prop := wp_X10_isDigit x_4 (fun (r44 : Int32) => ((r44 = (0 : Int32) → wp_X10_isName x_4 (fun (r46 : Int32) => ((r46 = (0 : Int32) → jp_X10_faultOf_89  K k_6 x_1 (x_3 + (1 : Int32)) y_0) ∧ (¬ r46 = (0 : Int32) → wp_X10_nameEnd y_0 x_3 (fun (r48 : Int32) => jp_X10_faultOf_89  K k_6 x_1 r48 y_0))))) ∧ (¬ r44 = (0 : Int32) → wp_X10_numberEnd y_0 x_3 (fun (r49 : Int32) => jp_X10_faultOf_89  K k_6 x_1 r49 y_0))))
set_option maxHeartbeats 4000000 in
theorem jt_X10_faultOf_54 {G : GX} {l : Launch} {d : Nat} {w : HW} {a : Nat} {K : Int32 → RT → Prop} {k_6 : Int32 → Int32 → Int32 → RT → Prop} (hd : 4 ≤ d) (hk_6 : ∀ (x_1 : Int32) (x_2 : Int32) (x_3 : Int32) (y_0 : RT), k_6 x_1 x_2 x_3 y_0 → X G l m_X10_faultOf d 0 0 0 0 6 [(0, .ref a), (1, .int x_1), (2, .int x_2), (3, .int x_3)] [] (put w a 22 (shM a y_0)) (fun r w2 => ∃ (r1 : Int32), ∃ (z0 : RT), r = some (.int r1) ∧ w2 = put w a 22 (shM a z0) ∧ K r1 z0)) (x_1 : Int32) (x_3 : Int32) (x_4 : Int32) (y_0 : RT) (hQ : jp_X10_faultOf_54 K k_6 x_1 x_3 x_4 y_0) : X G l m_X10_faultOf d 0 0 0 0 54 [(0, .ref a), (1, .int x_1), (3, .int x_3), (4, .int x_4)] [] (put w a 22 (shM a y_0)) (fun r w2 => ∃ (r1 : Int32), ∃ (z0 : RT), r = some (.int r1) ∧ w2 = put w a 22 (shM a z0) ∧ K r1 z0) := by
  refine x_iload 3 d_X10_faultOf_54 rfl ?_
  refine x_invS (rest := []) (d' := d - 1) (mc' := 0) (ms' := 0) [.int x_4] k_X10_isDigit lk_X10_105 rfl rfl (Nat.le_of_ble_eq_true rfl) (by omega) (Nat.le_refl _) (Nat.le_refl _) d_X10_faultOf_56 ((sp_X10_isDigit (d := d - 1) (by omega) hQ).mono (fun r w2 hr => ?_))
  obtain ⟨r44, rfl, rfl, hQ⟩ := hr
  refine x_if_eq (tgt := 70) d_X10_faultOf_59 (by decide) (fun c_59_45 => ?_) (fun c_59_45 => ?_)
  · have hQ := hQ.1 c_59_45
    refine x_iload 3 d_X10_faultOf_70 rfl ?_
    refine x_invS (rest := []) (d' := d - 1) (mc' := 0) (ms' := 0) [.int x_4] k_X10_isName lk_X10_113 rfl rfl (Nat.le_of_ble_eq_true rfl) (by omega) (Nat.le_refl _) (Nat.le_refl _) d_X10_faultOf_72 ((sp_X10_isName (d := d - 1) (by omega) hQ).mono (fun r w2 hr => ?_))
    obtain ⟨r46, rfl, rfl, hQ⟩ := hr
    refine x_if_eq (tgt := 86) d_X10_faultOf_75 (by decide) (fun c_75_47 => ?_) (fun c_75_47 => ?_)
    · have hQ := hQ.1 c_75_47
      refine x_iload_n 2 d_X10_faultOf_86 rfl rfl ?_
      refine x_iconst (v := (1 : Int32)) d_X10_faultOf_87 (by decide) ?_
      refine x_iadd d_X10_faultOf_88 ?_
      refine x_sub [0, 1] (lv2 := [(0, .ref a), (1, .int x_1)]) rfl ?_
      exact jt_X10_faultOf_89 hd hk_6 x_1 (x_3 + (1 : Int32)) y_0 hQ
    · have hQ := hQ.2 c_75_47
      refine x_aload_n 0 d_X10_faultOf_78 rfl rfl ?_
      refine x_iload_n 2 d_X10_faultOf_79 rfl rfl ?_
      refine x_invV (rest := []) (d' := d - 1) (mc' := 0) (ms' := 0) [.int x_3] k_X10_nameEnd lk_X10_119 gM_0 rfl rfl rfl (Nat.le_of_ble_eq_true rfl) (by omega) (Nat.le_refl _) (Nat.le_refl _) d_X10_faultOf_80 ((sp_X10_nameEnd (d := d - 1) (by omega) hQ).mono (fun r w2 hr => ?_))
      obtain ⟨r48, rfl, rfl, hQ⟩ := hr
      refine x_goto (tgt := 89) d_X10_faultOf_83 (by decide) ?_
      refine x_sub [0, 1] (lv2 := [(0, .ref a), (1, .int x_1)]) rfl ?_
      exact jt_X10_faultOf_89 hd hk_6 x_1 r48 y_0 hQ
  · have hQ := hQ.2 c_59_45
    refine x_aload_n 0 d_X10_faultOf_62 rfl rfl ?_
    refine x_iload_n 2 d_X10_faultOf_63 rfl rfl ?_
    refine x_invV (rest := []) (d' := d - 1) (mc' := 0) (ms' := 0) [.int x_3] k_X10_numberEnd lk_X10_116 gM_0 rfl rfl rfl (Nat.le_of_ble_eq_true rfl) (by omega) (Nat.le_refl _) (Nat.le_refl _) d_X10_faultOf_64 ((sp_X10_numberEnd (d := d - 1) (by omega) hQ).mono (fun r w2 hr => ?_))
    obtain ⟨r49, rfl, rfl, hQ⟩ := hr
    refine x_goto (tgt := 89) d_X10_faultOf_67 (by decide) ?_
    refine x_sub [0, 1] (lv2 := [(0, .ref a), (1, .int x_1)]) rfl ?_
    exact jt_X10_faultOf_89 hd hk_6 x_1 r49 y_0 hQ
def lp_X10_faultOf_6 (K : Int32 → RT → Prop) : Nat → Int32 → Int32 → Int32 → RT → Prop
  | 0, _, _, _, _ => False
  | n + 1, x_1, x_2, x_3, y_0 => (((y_0.2.2 6) ≤ x_3 → ((¬ x_2 = (0 : Int32) → K (y_0.2.2 6) y_0) ∧ (x_2 = (0 : Int32) → ((x_1 ≤ (0 : Int32) → K (-2000000004 : Int32) y_0) ∧ (¬ x_1 ≤ (0 : Int32) → K (y_0.2.2 6) y_0))))) ∧ (¬ (y_0.2.2 6) ≤ x_3 → vp_in x_3 80 ∧ ∀ x4 : Int32, x4 = (y_0.1 5 x_3.toNatClampNeg) → ∀ x5 : Int32, x5 = x_3 + (1 : Int32) → ((x_2 = (0 : Int32) → jp_X10_faultOf_96  K (fun v0 v1 v2 v3 => lp_X10_faultOf_6  K n v0 v1 v2 v3) x_1 x_2 x_3 x4 x5 y_0) ∧ (¬ x_2 = (0 : Int32) → wp_X10_isDigit x4 (fun (r42 : Int32) => ((¬ r42 = (0 : Int32) → jp_X10_faultOf_54  K (fun v0 v1 v2 v3 => lp_X10_faultOf_6  K n v0 v1 v2 v3) x_1 x_3 x4 y_0) ∧ (r42 = (0 : Int32) → ((x4 = (116 : Int32) → jp_X10_faultOf_54  K (fun v0 v1 v2 v3 => lp_X10_faultOf_6  K n v0 v1 v2 v3) x_1 x_3 x4 y_0) ∧ (¬ x4 = (116 : Int32) → wp_X10_isName x4 (fun (r51 : Int32) => ((r51 = (0 : Int32) → jp_X10_faultOf_96  K (fun v0 v1 v2 v3 => lp_X10_faultOf_6  K n v0 v1 v2 v3) x_1 x_2 x_3 x4 x5 y_0) ∧ (¬ r51 = (0 : Int32) → jp_X10_faultOf_54  K (fun v0 v1 v2 v3 => lp_X10_faultOf_6  K n v0 v1 v2 v3) x_1 x_3 x4 y_0))))))))))))
set_option maxHeartbeats 4000000 in
theorem jt_X10_faultOf_6 {G : GX} {l : Launch} {d : Nat} {w : HW} {a : Nat} {K : Int32 → RT → Prop} (hd : 4 ≤ d) : ∀ (n : Nat) (x_1 : Int32) (x_2 : Int32) (x_3 : Int32) (y_0 : RT), lp_X10_faultOf_6 K n x_1 x_2 x_3 y_0 → X G l m_X10_faultOf d 0 0 0 0 6 [(0, .ref a), (1, .int x_1), (2, .int x_2), (3, .int x_3)] [] (put w a 22 (shM a y_0)) (fun r w2 => ∃ (r1 : Int32), ∃ (z0 : RT), r = some (.int r1) ∧ w2 = put w a 22 (shM a z0) ∧ K r1 z0) := by
  intro n
  induction n with
  | zero =>
    intro x_1 x_2 x_3 y_0 hQ
    exact hQ.elim
  | succ n ih =>
    intro x_1 x_2 x_3 y_0 hQ
    refine x_iload_n 3 d_X10_faultOf_6 rfl rfl ?_
    refine x_aload_n 0 d_X10_faultOf_7 rfl rfl ?_
    refine x_getf 6 gf_X10_97 gM_0 rfl d_X10_faultOf_8 ?_
    refine x_icmp_ge (tgt := 361) d_X10_faultOf_11 (by decide) (fun c_11_1 => ?_) (fun c_11_1 => ?_)
    · have hQ := hQ.1 c_11_1
      refine x_iload_n 2 d_X10_faultOf_361 rfl rfl ?_
      refine x_if_ne (tgt := 369) d_X10_faultOf_362 (by decide) (fun c_362_2 => ?_) (fun c_362_2 => ?_)
      · have hQ := hQ.1 c_362_2
        refine x_aload_n 0 d_X10_faultOf_369 rfl rfl ?_
        refine x_getf 6 gf_X10_97 gM_0 rfl d_X10_faultOf_370 ?_
        refine x_goto (tgt := 378) d_X10_faultOf_373 (by decide) ?_
        exact x_iret (retI d_X10_faultOf_378 rfl) ⟨_, _, rfl, rfl, hQ⟩
      · have hQ := hQ.2 c_362_2
        refine x_iload_n 1 d_X10_faultOf_365 rfl rfl ?_
        refine x_if_le (tgt := 376) d_X10_faultOf_366 (by decide) (fun c_366_3 => ?_) (fun c_366_3 => ?_)
        · have hQ := hQ.1 c_366_3
          refine x_ldc (v := (-2000000004 : Int32)) kc_X10_125 d_X10_faultOf_376 ?_
          exact x_iret (retI d_X10_faultOf_378 rfl) ⟨_, _, rfl, rfl, hQ⟩
        · have hQ := hQ.2 c_366_3
          refine x_aload_n 0 d_X10_faultOf_369 rfl rfl ?_
          refine x_getf 6 gf_X10_97 gM_0 rfl d_X10_faultOf_370 ?_
          refine x_goto (tgt := 378) d_X10_faultOf_373 (by decide) ?_
          exact x_iret (retI d_X10_faultOf_378 rfl) ⟨_, _, rfl, rfl, hQ⟩
    · have hQ := hQ.2 c_11_1
      refine x_aload_n 0 d_X10_faultOf_14 rfl rfl ?_
      refine x_getf 5 gf_X10_22 gM_0 rfl d_X10_faultOf_15 ?_
      refine x_iload_n 3 d_X10_faultOf_18 rfl rfl ?_
      have hN := hQ.1
      have hQ := hQ.2
      refine x_iald gM_5 hN d_X10_faultOf_19 ?_
      refine x_topi (fun x4 e_x4 => ?_)
      have hQ := hQ x4 e_x4
      refine x_istore (lv2 := [(4, .int x4), (0, .ref a), (1, .int x_1), (2, .int x_2), (3, .int x_3)]) d_X10_faultOf_20 (by decide) rfl ?_
      refine x_iload_n 4 d_X10_faultOf_22 rfl rfl ?_
      refine x_iconst (v := (1 : Int32)) d_X10_faultOf_23 (by decide) ?_
      refine x_iadd d_X10_faultOf_24 ?_
      refine x_topi (fun x5 e_x5 => ?_)
      have hQ := hQ x5 e_x5
      refine x_istore (lv2 := [(5, .int x5), (4, .int x4), (0, .ref a), (1, .int x_1), (2, .int x_2), (3, .int x_3)]) d_X10_faultOf_25 (by decide) rfl ?_
      refine x_iload_n 4 d_X10_faultOf_27 rfl rfl ?_
      refine x_if_eq (tgt := 96) d_X10_faultOf_28 (by decide) (fun c_28_6 => ?_) (fun c_28_6 => ?_)
      · have hQ := hQ.1 c_28_6
        refine x_sub [2, 3, 4, 5, 1, 0] (lv2 := [(0, .ref a), (1, .int x_1), (2, .int x_2), (3, .int x_3), (4, .int x4), (5, .int x5)]) rfl ?_
        exact jt_X10_faultOf_96 hd ih x_1 x_2 x_3 x4 x5 y_0 hQ
      · have hQ := hQ.2 c_28_6
        refine x_iload 1 d_X10_faultOf_31 rfl ?_
        refine x_invS (rest := []) (d' := d - 1) (mc' := 0) (ms' := 0) [.int x4] k_X10_isDigit lk_X10_105 rfl rfl (Nat.le_of_ble_eq_true rfl) (by omega) (Nat.le_refl _) (Nat.le_refl _) d_X10_faultOf_33 ((sp_X10_isDigit (d := d - 1) (by omega) hQ).mono (fun r w2 hr => ?_))
        obtain ⟨r42, rfl, rfl, hQ⟩ := hr
        refine x_if_ne (tgt := 54) d_X10_faultOf_36 (by decide) (fun c_36_43 => ?_) (fun c_36_43 => ?_)
        · have hQ := hQ.1 c_36_43
          refine x_sub [2, 3, 5, 1] (lv2 := [(0, .ref a), (1, .int x_1), (3, .int x_3), (4, .int x4)]) rfl ?_
          exact jt_X10_faultOf_54 hd ih x_1 x_3 x4 y_0 hQ
        · have hQ := hQ.2 c_36_43
          refine x_iload 1 d_X10_faultOf_39 rfl ?_
          refine x_bipush (v := (116 : Int32)) d_X10_faultOf_41 (by decide) ?_
          refine x_icmp_eq (tgt := 54) d_X10_faultOf_43 (by decide) (fun c_43_50 => ?_) (fun c_43_50 => ?_)
          · have hQ := hQ.1 c_43_50
            refine x_sub [2, 3, 5, 1] (lv2 := [(0, .ref a), (1, .int x_1), (3, .int x_3), (4, .int x4)]) rfl ?_
            exact jt_X10_faultOf_54 hd ih x_1 x_3 x4 y_0 hQ
          · have hQ := hQ.2 c_43_50
            refine x_iload 1 d_X10_faultOf_46 rfl ?_
            refine x_invS (rest := []) (d' := d - 1) (mc' := 0) (ms' := 0) [.int x4] k_X10_isName lk_X10_113 rfl rfl (Nat.le_of_ble_eq_true rfl) (by omega) (Nat.le_refl _) (Nat.le_refl _) d_X10_faultOf_48 ((sp_X10_isName (d := d - 1) (by omega) hQ).mono (fun r w2 hr => ?_))
            obtain ⟨r51, rfl, rfl, hQ⟩ := hr
            refine x_if_eq (tgt := 96) d_X10_faultOf_51 (by decide) (fun c_51_52 => ?_) (fun c_51_52 => ?_)
            · have hQ := hQ.1 c_51_52
              refine x_sub [2, 3, 4, 5, 1, 0] (lv2 := [(0, .ref a), (1, .int x_1), (2, .int x_2), (3, .int x_3), (4, .int x4), (5, .int x5)]) rfl ?_
              exact jt_X10_faultOf_96 hd ih x_1 x_2 x_3 x4 x5 y_0 hQ
            · have hQ := hQ.2 c_51_52
              refine x_sub [2, 3, 5, 1] (lv2 := [(0, .ref a), (1, .int x_1), (3, .int x_3), (4, .int x4)]) rfl ?_
              exact jt_X10_faultOf_54 hd ih x_1 x_3 x4 y_0 hQ
def wp_X10_faultOf (s : RT) (K : Int32 → RT → Prop) : Prop := ∃ m : Nat, lp_X10_faultOf_6  K m (0 : Int32) (1 : Int32) (0 : Int32) s
set_option maxHeartbeats 4000000 in
theorem sp_X10_faultOf {G : GX} {l : Launch} {d : Nat} {w : HW} {a : Nat} {s : RT} {K : Int32 → RT → Prop} (hd : 4 ≤ d) (hQ : wp_X10_faultOf s K) : Sp G l m_X10_faultOf d 0 0 [.ref a] (put w a 22 (shM a s)) (fun r w2 => ∃ (r1 : Int32), ∃ (z0 : RT), r = some (.int r1) ∧ w2 = put w a 22 (shM a z0) ∧ K r1 z0) := by
  refine Sp.ofX k_X10_faultOf.1.1 (Nat.le_of_ble_eq_true rfl) ?_
  refine X.lv (lv2 := [(0, .ref a)]) rfl ?_
  refine x_iconst (v := (0 : Int32)) d_X10_faultOf_0 (by decide) ?_
  refine x_istore_n (lv2 := [(1, .int (0 : Int32)), (0, .ref a)]) d_X10_faultOf_1 rfl (by decide) rfl ?_
  refine x_iconst (v := (1 : Int32)) d_X10_faultOf_2 (by decide) ?_
  refine x_istore_n (lv2 := [(2, .int (1 : Int32)), (1, .int (0 : Int32)), (0, .ref a)]) d_X10_faultOf_3 rfl (by decide) rfl ?_
  refine x_iconst (v := (0 : Int32)) d_X10_faultOf_4 (by decide) ?_
  refine x_istore_n (lv2 := [(3, .int (0 : Int32)), (2, .int (1 : Int32)), (1, .int (0 : Int32)), (0, .ref a)]) d_X10_faultOf_5 rfl (by decide) rfl ?_
  refine x_sub [3, 2, 1, 0] (lv2 := [(0, .ref a), (1, .int (0 : Int32)), (2, .int (1 : Int32)), (3, .int (0 : Int32))]) rfl ?_
  obtain ⟨m, hQ⟩ := hQ
  exact jt_X10_faultOf_6 hd m (0 : Int32) (1 : Int32) (0 : Int32) s hQ
def wp_X10_fault (s : RT) (K : Int32 → RT → Prop) : Prop := wp_X10_faultOf s (fun (r1 : Int32) (s2 : RT) => K r1 s2)
set_option maxHeartbeats 4000000 in
theorem sp_X10_fault {G : GX} {l : Launch} {d : Nat} {w : HW} {a : Nat} {s : RT} {K : Int32 → RT → Prop} (hd : 5 ≤ d) (hQ : wp_X10_fault s K) : Sp G l m_X10_fault d 0 0 [.ref a] (put w a 22 (shM a s)) (fun r w2 => ∃ (r1 : Int32), ∃ (z0 : RT), r = some (.int r1) ∧ w2 = put w a 22 (shM a z0) ∧ K r1 z0) := by
  refine Sp.ofX k_X10_fault.1.1 (Nat.le_of_ble_eq_true rfl) ?_
  refine X.lv (lv2 := [(0, .ref a)]) rfl ?_
  refine x_aload_n 0 d_X10_fault_0 rfl rfl ?_
  refine x_invV (rest := []) (d' := d - 1) (mc' := 0) (ms' := 0) [] k_X10_faultOf lk_X10_126 gM_0 rfl rfl rfl (Nat.le_of_ble_eq_true rfl) (by omega) (Nat.le_refl _) (Nat.le_refl _) d_X10_fault_1 ((sp_X10_faultOf (d := d - 1) (by omega) hQ).mono (fun r w2 hr => ?_))
  obtain ⟨r1, s2, rfl, rfl, hQ⟩ := hr
  exact x_iret (retI d_X10_fault_4 rfl) ⟨_, _, rfl, rfl, hQ⟩
def wp_X10_isThree (a0 : Int32) (K : Int32 → Prop) : Prop := wp_X10_within a0 (0 : Int32) (2 : Int32) (fun (r1 : Int32) => (narrow .boolean (.int r1) = .int r1) ∧ K r1)
set_option maxHeartbeats 4000000 in
theorem sp_X10_isThree {G : GX} {l : Launch} {d : Nat} {w : HW} {a0 : Int32} {K : Int32 → Prop} (hd : 1 ≤ d) (hQ : wp_X10_isThree a0 K) : Sp G l m_X10_isThree d 0 0 [.int a0] (w) (fun r w2 => ∃ (r1 : Int32), r = some (.int r1) ∧ w2 = w ∧ K r1) := by
  refine Sp.ofX k_X10_isThree.1.1 (Nat.le_of_ble_eq_true rfl) ?_
  refine X.lv (lv2 := [(0, .int a0)]) rfl ?_
  refine x_iload_n 0 d_X10_isThree_0 rfl rfl ?_
  refine x_iconst (v := (0 : Int32)) d_X10_isThree_1 (by decide) ?_
  refine x_iconst (v := (2 : Int32)) d_X10_isThree_2 (by decide) ?_
  refine x_invS (rest := []) (d' := d - 1) (mc' := 0) (ms' := 0) [.int a0, .int (0 : Int32), .int (2 : Int32)] k_X10_within lk_X10_86 rfl rfl (Nat.le_of_ble_eq_true rfl) (by omega) (Nat.le_refl _) (Nat.le_refl _) d_X10_isThree_3 ((sp_X10_within (d := d - 1) (by omega) hQ).mono (fun r w2 hr => ?_))
  obtain ⟨r1, rfl, rfl, hQ⟩ := hr
  exact x_iret (retB d_X10_isThree_6 rfl hQ.1) ⟨_, rfl, rfl, hQ.2⟩
def wp_X10_rightLetter (s : RT) (a0 : Int32) (a1 : Int32) (K : Int32 → Prop) : Prop := vp_in ((48 : Int32) + ((81 : Int32) * a0)) 812 ∧ (((s.1 1 ((48 : Int32) + ((81 : Int32) * a0)).toNatClampNeg) ≤ a1 → K (0 : Int32)) ∧ (¬ (s.1 1 ((48 : Int32) + ((81 : Int32) * a0)).toNatClampNeg) ≤ a1 → vp_in ((((48 : Int32) + ((81 : Int32) * a0)) + (1 : Int32)) + a1) 812 ∧ K (s.1 1 ((((48 : Int32) + ((81 : Int32) * a0)) + (1 : Int32)) + a1).toNatClampNeg)))
set_option maxHeartbeats 4000000 in
theorem sp_X10_rightLetter {G : GX} {l : Launch} {d : Nat} {w : HW} {a : Nat} {s : RT} {a0 : Int32} {a1 : Int32} {K : Int32 → Prop} (hd : 0 ≤ d) (hQ : wp_X10_rightLetter s a0 a1 K) : Sp G l m_X10_rightLetter d 0 0 [.ref a, .int a0, .int a1] (put w a 22 (shM a s)) (fun r w2 => ∃ (r1 : Int32), r = some (.int r1) ∧ w2 = put w a 22 (shM a s) ∧ K r1) := by
  refine Sp.ofX k_X10_rightLetter.1.1 (Nat.le_of_ble_eq_true rfl) ?_
  refine X.lv (lv2 := [(0, .ref a), (1, .int a0), (2, .int a1)]) rfl ?_
  refine x_iload_n 2 d_X10_rightLetter_0 rfl rfl ?_
  refine x_aload_n 0 d_X10_rightLetter_1 rfl rfl ?_
  refine x_getf 0 gf_X10_7 gM_0 rfl d_X10_rightLetter_2 ?_
  refine x_bipush (v := (48 : Int32)) d_X10_rightLetter_5 (by decide) ?_
  refine x_bipush (v := (81 : Int32)) d_X10_rightLetter_7 (by decide) ?_
  refine x_iload_n 1 d_X10_rightLetter_9 rfl rfl ?_
  refine x_imul d_X10_rightLetter_10 ?_
  refine x_iadd d_X10_rightLetter_11 ?_
  have hN := hQ.1
  have hQ := hQ.2
  refine x_iald gM_1 hN d_X10_rightLetter_12 ?_
  refine x_icmp_ge (tgt := 35) d_X10_rightLetter_13 (by decide) (fun c_13_1 => ?_) (fun c_13_1 => ?_)
  · have hQ := hQ.1 c_13_1
    refine x_iconst (v := (0 : Int32)) d_X10_rightLetter_35 (by decide) ?_
    exact x_iret (retI d_X10_rightLetter_36 rfl) ⟨_, rfl, rfl, hQ⟩
  · have hQ := hQ.2 c_13_1
    refine x_aload_n 0 d_X10_rightLetter_16 rfl rfl ?_
    refine x_getf 0 gf_X10_7 gM_0 rfl d_X10_rightLetter_17 ?_
    refine x_bipush (v := (48 : Int32)) d_X10_rightLetter_20 (by decide) ?_
    refine x_bipush (v := (81 : Int32)) d_X10_rightLetter_22 (by decide) ?_
    refine x_iload_n 1 d_X10_rightLetter_24 rfl rfl ?_
    refine x_imul d_X10_rightLetter_25 ?_
    refine x_iadd d_X10_rightLetter_26 ?_
    refine x_iconst (v := (1 : Int32)) d_X10_rightLetter_27 (by decide) ?_
    refine x_iadd d_X10_rightLetter_28 ?_
    refine x_iload_n 2 d_X10_rightLetter_29 rfl rfl ?_
    refine x_iadd d_X10_rightLetter_30 ?_
    have hN := hQ.1
    have hQ := hQ.2
    refine x_iald gM_1 hN d_X10_rightLetter_31 ?_
    refine x_goto (tgt := 36) d_X10_rightLetter_32 (by decide) ?_
    exact x_iret (retI d_X10_rightLetter_36 rfl) ⟨_, rfl, rfl, hQ⟩
def jp_X10_usedBy_49 (s : RT) (a0 : Int32) (K : Int32 → Prop) (k_4 : Int32 → Int32 → Prop) (x_3 : Int32) (t_0 : Int32) (t_1 : Int32) : Prop := ∀ x4 : Int32, x4 = t_1 ||| t_0 → ∀ x5 : Int32, x5 = x_3 + (1 : Int32) → k_4 x4 x5
set_option maxHeartbeats 4000000 in
theorem jt_X10_usedBy_49 {G : GX} {l : Launch} {d : Nat} {w : HW} {a : Nat} {s : RT} {a0 : Int32} {K : Int32 → Prop} {k_4 : Int32 → Int32 → Prop} (hd : 1 ≤ d) (hk_4 : ∀ (x_2 : Int32) (x_3 : Int32), k_4 x_2 x_3 → X G l m_X10_usedBy d 0 0 0 0 4 [(0, .ref a), (1, .int a0), (2, .int x_2), (3, .int x_3)] [] (put w a 22 (shM a s)) (fun r w2 => ∃ (r1 : Int32), r = some (.int r1) ∧ w2 = put w a 22 (shM a s) ∧ K r1)) (x_3 : Int32) (t_0 : Int32) (t_1 : Int32) (hQ : jp_X10_usedBy_49 s a0 K k_4 x_3 t_0 t_1) : X G l m_X10_usedBy d 0 0 0 0 49 [(0, .ref a), (1, .int a0), (3, .int x_3)] [.int t_0, .int t_1] (put w a 22 (shM a s)) (fun r w2 => ∃ (r1 : Int32), r = some (.int r1) ∧ w2 = put w a 22 (shM a s) ∧ K r1) := by
  refine x_ior d_X10_usedBy_49 ?_
  refine x_topi (fun x4 e_x4 => ?_)
  have hQ := hQ x4 e_x4
  refine x_istore_n (lv2 := [(2, .int x4), (0, .ref a), (1, .int a0), (3, .int x_3)]) d_X10_usedBy_50 rfl (by decide) rfl ?_
  obtain ⟨x5, e_x5⟩ : ∃ z : Int32, z = x_3 + (1 : Int32) := ⟨_, rfl⟩
  have hQ := hQ x5 e_x5
  refine x_iinc (v := x5) (lv2 := [(3, .int x5), (2, .int x4), (0, .ref a), (1, .int a0)]) 3 d_X10_usedBy_51 rfl (by rw [e_x5]; rfl) (by decide) rfl ?_
  refine x_goto (tgt := 4) d_X10_usedBy_54 (by decide) ?_
  refine x_sub [2, 3, 1, 0] (lv2 := [(0, .ref a), (1, .int a0), (2, .int x4), (3, .int x5)]) rfl ?_
  exact hk_4 x4 x5 hQ
def lp_X10_usedBy_4 (s : RT) (a0 : Int32) (K : Int32 → Prop) : Nat → Int32 → Int32 → Prop
  | 0, _, _ => False
  | n + 1, x_2, x_3 => vp_in ((48 : Int32) + ((81 : Int32) * a0)) 812 ∧ (((s.1 1 ((48 : Int32) + ((81 : Int32) * a0)).toNatClampNeg) ≤ x_3 → K x_2) ∧ (¬ (s.1 1 ((48 : Int32) + ((81 : Int32) * a0)).toNatClampNeg) ≤ x_3 → wp_X10_rightLetter s a0 x_3 (fun (r2 : Int32) => ((¬ r2 = (64 : Int32) → jp_X10_usedBy_49 s a0 K (fun v0 v1 => lp_X10_usedBy_4 s a0 K n v0 v1) x_3 (0 : Int32) x_2) ∧ (r2 = (64 : Int32) → wp_X10_rightLetter s a0 (x_3 + (1 : Int32)) (fun (r6 : Int32) => jp_X10_usedBy_49 s a0 K (fun v0 v1 => lp_X10_usedBy_4 s a0 K n v0 v1) x_3 ((1 : Int32) <<< ((r6 - (48 : Int32)) &&& 31)) x_2))))))
set_option maxHeartbeats 4000000 in
theorem jt_X10_usedBy_4 {G : GX} {l : Launch} {d : Nat} {w : HW} {a : Nat} {s : RT} {a0 : Int32} {K : Int32 → Prop} (hd : 1 ≤ d) : ∀ (n : Nat) (x_2 : Int32) (x_3 : Int32), lp_X10_usedBy_4 s a0 K n x_2 x_3 → X G l m_X10_usedBy d 0 0 0 0 4 [(0, .ref a), (1, .int a0), (2, .int x_2), (3, .int x_3)] [] (put w a 22 (shM a s)) (fun r w2 => ∃ (r1 : Int32), r = some (.int r1) ∧ w2 = put w a 22 (shM a s) ∧ K r1) := by
  intro n
  induction n with
  | zero =>
    intro x_2 x_3 hQ
    exact hQ.elim
  | succ n ih =>
    intro x_2 x_3 hQ
    refine x_iload_n 3 d_X10_usedBy_4 rfl rfl ?_
    refine x_aload_n 0 d_X10_usedBy_5 rfl rfl ?_
    refine x_getf 0 gf_X10_7 gM_0 rfl d_X10_usedBy_6 ?_
    refine x_bipush (v := (48 : Int32)) d_X10_usedBy_9 (by decide) ?_
    refine x_bipush (v := (81 : Int32)) d_X10_usedBy_11 (by decide) ?_
    refine x_iload_n 1 d_X10_usedBy_13 rfl rfl ?_
    refine x_imul d_X10_usedBy_14 ?_
    refine x_iadd d_X10_usedBy_15 ?_
    have hN := hQ.1
    have hQ := hQ.2
    refine x_iald gM_1 hN d_X10_usedBy_16 ?_
    refine x_icmp_ge (tgt := 57) d_X10_usedBy_17 (by decide) (fun c_17_1 => ?_) (fun c_17_1 => ?_)
    · have hQ := hQ.1 c_17_1
      refine x_iload_n 2 d_X10_usedBy_57 rfl rfl ?_
      exact x_iret (retI d_X10_usedBy_58 rfl) ⟨_, rfl, rfl, hQ⟩
    · have hQ := hQ.2 c_17_1
      refine x_iload_n 2 d_X10_usedBy_20 rfl rfl ?_
      refine x_aload_n 0 d_X10_usedBy_21 rfl rfl ?_
      refine x_iload_n 1 d_X10_usedBy_22 rfl rfl ?_
      refine x_iload_n 3 d_X10_usedBy_23 rfl rfl ?_
      refine x_invV (rest := [.int x_2]) (d' := d - 1) (mc' := 0) (ms' := 0) [.int a0, .int x_3] k_X10_rightLetter lk_X10_130 gM_0 rfl rfl rfl (Nat.le_of_ble_eq_true rfl) (by omega) (Nat.le_refl _) (Nat.le_refl _) d_X10_usedBy_24 ((sp_X10_rightLetter (d := d - 1) (by omega) hQ).mono (fun r w2 hr => ?_))
      obtain ⟨r2, rfl, rfl, hQ⟩ := hr
      refine x_bipush (v := (64 : Int32)) d_X10_usedBy_27 (by decide) ?_
      refine x_icmp_ne (tgt := 48) d_X10_usedBy_29 (by decide) (fun c_29_3 => ?_) (fun c_29_3 => ?_)
      · have hQ := hQ.1 c_29_3
        refine x_iconst (v := (0 : Int32)) d_X10_usedBy_48 (by decide) ?_
        refine x_sub [0, 1, 3] (lv2 := [(0, .ref a), (1, .int a0), (3, .int x_3)]) rfl ?_
        exact jt_X10_usedBy_49 hd ih x_3 (0 : Int32) x_2 hQ
      · have hQ := hQ.2 c_29_3
        refine x_iconst (v := (1 : Int32)) d_X10_usedBy_32 (by decide) ?_
        refine x_aload_n 0 d_X10_usedBy_33 rfl rfl ?_
        refine x_iload_n 1 d_X10_usedBy_34 rfl rfl ?_
        refine x_iload_n 3 d_X10_usedBy_35 rfl rfl ?_
        refine x_iconst (v := (1 : Int32)) d_X10_usedBy_36 (by decide) ?_
        refine x_iadd d_X10_usedBy_37 ?_
        refine x_invV (rest := [.int (1 : Int32), .int x_2]) (d' := d - 1) (mc' := 0) (ms' := 0) [.int a0, .int (x_3 + (1 : Int32))] k_X10_rightLetter lk_X10_130 gM_0 rfl rfl rfl (Nat.le_of_ble_eq_true rfl) (by omega) (Nat.le_refl _) (Nat.le_refl _) d_X10_usedBy_38 ((sp_X10_rightLetter (d := d - 1) (by omega) hQ).mono (fun r w2 hr => ?_))
        obtain ⟨r6, rfl, rfl, hQ⟩ := hr
        refine x_bipush (v := (48 : Int32)) d_X10_usedBy_41 (by decide) ?_
        refine x_isub d_X10_usedBy_43 ?_
        refine x_ishl d_X10_usedBy_44 ?_
        refine x_goto (tgt := 49) d_X10_usedBy_45 (by decide) ?_
        refine x_sub [0, 1, 3] (lv2 := [(0, .ref a), (1, .int a0), (3, .int x_3)]) rfl ?_
        exact jt_X10_usedBy_49 hd ih x_3 ((1 : Int32) <<< ((r6 - (48 : Int32)) &&& 31)) x_2 hQ
def wp_X10_usedBy (s : RT) (a0 : Int32) (K : Int32 → Prop) : Prop := ∃ m : Nat, lp_X10_usedBy_4 s a0 K m (0 : Int32) (0 : Int32)
set_option maxHeartbeats 4000000 in
theorem sp_X10_usedBy {G : GX} {l : Launch} {d : Nat} {w : HW} {a : Nat} {s : RT} {a0 : Int32} {K : Int32 → Prop} (hd : 1 ≤ d) (hQ : wp_X10_usedBy s a0 K) : Sp G l m_X10_usedBy d 0 0 [.ref a, .int a0] (put w a 22 (shM a s)) (fun r w2 => ∃ (r1 : Int32), r = some (.int r1) ∧ w2 = put w a 22 (shM a s) ∧ K r1) := by
  refine Sp.ofX k_X10_usedBy.1.1 (Nat.le_of_ble_eq_true rfl) ?_
  refine X.lv (lv2 := [(0, .ref a), (1, .int a0)]) rfl ?_
  refine x_iconst (v := (0 : Int32)) d_X10_usedBy_0 (by decide) ?_
  refine x_istore_n (lv2 := [(2, .int (0 : Int32)), (0, .ref a), (1, .int a0)]) d_X10_usedBy_1 rfl (by decide) rfl ?_
  refine x_iconst (v := (0 : Int32)) d_X10_usedBy_2 (by decide) ?_
  refine x_istore_n (lv2 := [(3, .int (0 : Int32)), (2, .int (0 : Int32)), (0, .ref a), (1, .int a0)]) d_X10_usedBy_3 rfl (by decide) rfl ?_
  refine x_sub [2, 3, 1, 0] (lv2 := [(0, .ref a), (1, .int a0), (2, .int (0 : Int32)), (3, .int (0 : Int32))]) rfl ?_
  obtain ⟨m, hQ⟩ := hQ
  exact jt_X10_usedBy_4 hd m (0 : Int32) (0 : Int32) hQ
def wp_X10_used (s : RT) (K : Int32 → Prop) : Prop := wp_X10_usedBy s (0 : Int32) (fun (r1 : Int32) => wp_X10_usedBy s (1 : Int32) (fun (r2 : Int32) => wp_X10_usedBy s (2 : Int32) (fun (r3 : Int32) => K ((r1 ||| r2) ||| r3))))
set_option maxHeartbeats 4000000 in
theorem sp_X10_used {G : GX} {l : Launch} {d : Nat} {w : HW} {a : Nat} {s : RT} {K : Int32 → Prop} (hd : 2 ≤ d) (hQ : wp_X10_used s K) : Sp G l m_X10_used d 0 0 [.ref a] (put w a 22 (shM a s)) (fun r w2 => ∃ (r1 : Int32), r = some (.int r1) ∧ w2 = put w a 22 (shM a s) ∧ K r1) := by
  refine Sp.ofX k_X10_used.1.1 (Nat.le_of_ble_eq_true rfl) ?_
  refine X.lv (lv2 := [(0, .ref a)]) rfl ?_
  refine x_aload_n 0 d_X10_used_0 rfl rfl ?_
  refine x_iconst (v := (0 : Int32)) d_X10_used_1 (by decide) ?_
  refine x_invV (rest := []) (d' := d - 1) (mc' := 0) (ms' := 0) [.int (0 : Int32)] k_X10_usedBy lk_X10_133 gM_0 rfl rfl rfl (Nat.le_of_ble_eq_true rfl) (by omega) (Nat.le_refl _) (Nat.le_refl _) d_X10_used_2 ((sp_X10_usedBy (d := d - 1) (by omega) hQ).mono (fun r w2 hr => ?_))
  obtain ⟨r1, rfl, rfl, hQ⟩ := hr
  refine x_aload_n 0 d_X10_used_5 rfl rfl ?_
  refine x_iconst (v := (1 : Int32)) d_X10_used_6 (by decide) ?_
  refine x_invV (rest := [.int r1]) (d' := d - 1) (mc' := 0) (ms' := 0) [.int (1 : Int32)] k_X10_usedBy lk_X10_133 gM_0 rfl rfl rfl (Nat.le_of_ble_eq_true rfl) (by omega) (Nat.le_refl _) (Nat.le_refl _) d_X10_used_7 ((sp_X10_usedBy (d := d - 1) (by omega) hQ).mono (fun r w2 hr => ?_))
  obtain ⟨r2, rfl, rfl, hQ⟩ := hr
  refine x_ior d_X10_used_10 ?_
  refine x_aload_n 0 d_X10_used_11 rfl rfl ?_
  refine x_iconst (v := (2 : Int32)) d_X10_used_12 (by decide) ?_
  refine x_invV (rest := [.int (r1 ||| r2)]) (d' := d - 1) (mc' := 0) (ms' := 0) [.int (2 : Int32)] k_X10_usedBy lk_X10_133 gM_0 rfl rfl rfl (Nat.le_of_ble_eq_true rfl) (by omega) (Nat.le_refl _) (Nat.le_refl _) d_X10_used_13 ((sp_X10_usedBy (d := d - 1) (by omega) hQ).mono (fun r w2 hr => ?_))
  obtain ⟨r3, rfl, rfl, hQ⟩ := hr
  refine x_ior d_X10_used_16 ?_
  exact x_iret (retI d_X10_used_17 rfl) ⟨_, rfl, rfl, hQ⟩
def wp_X10_pointTime (s : RT) (a0 : Int32) (a1 : Int32) (K : Int32 → Prop) : Prop := vp_in ((((9 : Int32) + ((13 : Int32) * a0)) + (1 : Int32)) + a1) 812 ∧ K (s.1 1 ((((9 : Int32) + ((13 : Int32) * a0)) + (1 : Int32)) + a1).toNatClampNeg)
set_option maxHeartbeats 4000000 in
theorem sp_X10_pointTime {G : GX} {l : Launch} {d : Nat} {w : HW} {a : Nat} {s : RT} {a0 : Int32} {a1 : Int32} {K : Int32 → Prop} (hd : 0 ≤ d) (hQ : wp_X10_pointTime s a0 a1 K) : Sp G l m_X10_pointTime d 0 0 [.ref a, .int a0, .int a1] (put w a 22 (shM a s)) (fun r w2 => ∃ (r1 : Int32), r = some (.int r1) ∧ w2 = put w a 22 (shM a s) ∧ K r1) := by
  refine Sp.ofX k_X10_pointTime.1.1 (Nat.le_of_ble_eq_true rfl) ?_
  refine X.lv (lv2 := [(0, .ref a), (1, .int a0), (2, .int a1)]) rfl ?_
  refine x_aload_n 0 d_X10_pointTime_0 rfl rfl ?_
  refine x_getf 0 gf_X10_7 gM_0 rfl d_X10_pointTime_1 ?_
  refine x_bipush (v := (9 : Int32)) d_X10_pointTime_4 (by decide) ?_
  refine x_bipush (v := (13 : Int32)) d_X10_pointTime_6 (by decide) ?_
  refine x_iload_n 1 d_X10_pointTime_8 rfl rfl ?_
  refine x_imul d_X10_pointTime_9 ?_
  refine x_iadd d_X10_pointTime_10 ?_
  refine x_iconst (v := (1 : Int32)) d_X10_pointTime_11 (by decide) ?_
  refine x_iadd d_X10_pointTime_12 ?_
  refine x_iload_n 2 d_X10_pointTime_13 rfl rfl ?_
  refine x_iadd d_X10_pointTime_14 ?_
  have hN := hQ.1
  have hQ := hQ.2
  refine x_iald gM_1 hN d_X10_pointTime_15 ?_
  exact x_iret (retI d_X10_pointTime_16 rfl) ⟨_, rfl, rfl, hQ⟩
def wp_X10_pointValue (s : RT) (a0 : Int32) (a1 : Int32) (K : Int32 → Prop) : Prop := vp_in ((((9 : Int32) + ((13 : Int32) * a0)) + (7 : Int32)) + a1) 812 ∧ K (s.1 1 ((((9 : Int32) + ((13 : Int32) * a0)) + (7 : Int32)) + a1).toNatClampNeg)
set_option maxHeartbeats 4000000 in
theorem sp_X10_pointValue {G : GX} {l : Launch} {d : Nat} {w : HW} {a : Nat} {s : RT} {a0 : Int32} {a1 : Int32} {K : Int32 → Prop} (hd : 0 ≤ d) (hQ : wp_X10_pointValue s a0 a1 K) : Sp G l m_X10_pointValue d 0 0 [.ref a, .int a0, .int a1] (put w a 22 (shM a s)) (fun r w2 => ∃ (r1 : Int32), r = some (.int r1) ∧ w2 = put w a 22 (shM a s) ∧ K r1) := by
  refine Sp.ofX k_X10_pointValue.1.1 (Nat.le_of_ble_eq_true rfl) ?_
  refine X.lv (lv2 := [(0, .ref a), (1, .int a0), (2, .int a1)]) rfl ?_
  refine x_aload_n 0 d_X10_pointValue_0 rfl rfl ?_
  refine x_getf 0 gf_X10_7 gM_0 rfl d_X10_pointValue_1 ?_
  refine x_bipush (v := (9 : Int32)) d_X10_pointValue_4 (by decide) ?_
  refine x_bipush (v := (13 : Int32)) d_X10_pointValue_6 (by decide) ?_
  refine x_iload_n 1 d_X10_pointValue_8 rfl rfl ?_
  refine x_imul d_X10_pointValue_9 ?_
  refine x_iadd d_X10_pointValue_10 ?_
  refine x_bipush (v := (7 : Int32)) d_X10_pointValue_11 (by decide) ?_
  refine x_iadd d_X10_pointValue_13 ?_
  refine x_iload_n 2 d_X10_pointValue_14 rfl rfl ?_
  refine x_iadd d_X10_pointValue_15 ?_
  have hN := hQ.1
  have hQ := hQ.2
  refine x_iald gM_1 hN d_X10_pointValue_16 ?_
  exact x_iret (retI d_X10_pointValue_17 rfl) ⟨_, rfl, rfl, hQ⟩
def wp_X10_points (s : RT) (a0 : Int32) (K : Int32 → Prop) : Prop := vp_in ((9 : Int32) + ((13 : Int32) * a0)) 812 ∧ K (s.1 1 ((9 : Int32) + ((13 : Int32) * a0)).toNatClampNeg)
set_option maxHeartbeats 4000000 in
theorem sp_X10_points {G : GX} {l : Launch} {d : Nat} {w : HW} {a : Nat} {s : RT} {a0 : Int32} {K : Int32 → Prop} (hd : 0 ≤ d) (hQ : wp_X10_points s a0 K) : Sp G l m_X10_points d 0 0 [.ref a, .int a0] (put w a 22 (shM a s)) (fun r w2 => ∃ (r1 : Int32), r = some (.int r1) ∧ w2 = put w a 22 (shM a s) ∧ K r1) := by
  refine Sp.ofX k_X10_points.1.1 (Nat.le_of_ble_eq_true rfl) ?_
  refine X.lv (lv2 := [(0, .ref a), (1, .int a0)]) rfl ?_
  refine x_aload_n 0 d_X10_points_0 rfl rfl ?_
  refine x_getf 0 gf_X10_7 gM_0 rfl d_X10_points_1 ?_
  refine x_bipush (v := (9 : Int32)) d_X10_points_4 (by decide) ?_
  refine x_bipush (v := (13 : Int32)) d_X10_points_6 (by decide) ?_
  refine x_iload_n 1 d_X10_points_8 rfl rfl ?_
  refine x_imul d_X10_points_9 ?_
  refine x_iadd d_X10_points_10 ?_
  have hN := hQ.1
  have hQ := hQ.2
  refine x_iald gM_1 hN d_X10_points_11 ?_
  exact x_iret (retI d_X10_points_12 rfl) ⟨_, rfl, rfl, hQ⟩
def wp_X10_lagAt (s : RT) (a0 : Int32) (a1 : Int32) (K : Int32 → Prop) : Prop := vp_in ((3 : Int32) + a0) 812 ∧ vp_in ((6 : Int32) + a0) 812 ∧ ∀ x1 : Int32, x1 = (s.1 1 ((3 : Int32) + a0).toNatClampNeg) + (((s.1 1 ((6 : Int32) + a0).toNatClampNeg) * a1) / (1000 : Int32)) → (((0 : Int32) ≤ x1 → K x1) ∧ (¬ (0 : Int32) ≤ x1 → K (0 : Int32)))
set_option maxHeartbeats 4000000 in
theorem sp_X10_lagAt {G : GX} {l : Launch} {d : Nat} {w : HW} {a : Nat} {s : RT} {a0 : Int32} {a1 : Int32} {K : Int32 → Prop} (hd : 0 ≤ d) (hQ : wp_X10_lagAt s a0 a1 K) : Sp G l m_X10_lagAt d 0 0 [.ref a, .int a0, .int a1] (put w a 22 (shM a s)) (fun r w2 => ∃ (r1 : Int32), r = some (.int r1) ∧ w2 = put w a 22 (shM a s) ∧ K r1) := by
  refine Sp.ofX k_X10_lagAt.1.1 (Nat.le_of_ble_eq_true rfl) ?_
  refine X.lv (lv2 := [(0, .ref a), (1, .int a0), (2, .int a1)]) rfl ?_
  refine x_aload_n 0 d_X10_lagAt_0 rfl rfl ?_
  refine x_getf 0 gf_X10_7 gM_0 rfl d_X10_lagAt_1 ?_
  refine x_iconst (v := (3 : Int32)) d_X10_lagAt_4 (by decide) ?_
  refine x_iload_n 1 d_X10_lagAt_5 rfl rfl ?_
  refine x_iadd d_X10_lagAt_6 ?_
  have hN := hQ.1
  have hQ := hQ.2
  refine x_iald gM_1 hN d_X10_lagAt_7 ?_
  refine x_aload_n 0 d_X10_lagAt_8 rfl rfl ?_
  refine x_getf 0 gf_X10_7 gM_0 rfl d_X10_lagAt_9 ?_
  refine x_bipush (v := (6 : Int32)) d_X10_lagAt_12 (by decide) ?_
  refine x_iload_n 1 d_X10_lagAt_14 rfl rfl ?_
  refine x_iadd d_X10_lagAt_15 ?_
  have hN := hQ.1
  have hQ := hQ.2
  refine x_iald gM_1 hN d_X10_lagAt_16 ?_
  refine x_iload_n 2 d_X10_lagAt_17 rfl rfl ?_
  refine x_imul d_X10_lagAt_18 ?_
  refine x_sipush (v := (1000 : Int32)) d_X10_lagAt_19 (by decide) ?_
  refine x_idiv d_X10_lagAt_22 (by decide) ?_
  refine x_iadd d_X10_lagAt_23 ?_
  refine x_topi (fun x1 e_x1 => ?_)
  have hQ := hQ x1 e_x1
  refine x_istore_n (lv2 := [(3, .int x1), (0, .ref a), (1, .int a0), (2, .int a1)]) d_X10_lagAt_24 rfl (by decide) rfl ?_
  refine x_iload_n 0 d_X10_lagAt_25 rfl rfl ?_
  refine x_if_ge (tgt := 33) d_X10_lagAt_26 (by decide) (fun c_26_2 => ?_) (fun c_26_2 => ?_)
  · have hQ := hQ.1 c_26_2
    refine x_iload_n 0 d_X10_lagAt_33 rfl rfl ?_
    exact x_iret (retI d_X10_lagAt_34 rfl) ⟨_, rfl, rfl, hQ⟩
  · have hQ := hQ.2 c_26_2
    refine x_iconst (v := (0 : Int32)) d_X10_lagAt_29 (by decide) ?_
    refine x_goto (tgt := 34) d_X10_lagAt_30 (by decide) ?_
    exact x_iret (retI d_X10_lagAt_34 rfl) ⟨_, rfl, rfl, hQ⟩
def wp_X10_lag (s : RT) (a0 : Int32) (a1 : Int32) (K : Int32 → Prop) : Prop := wp_X10_isThree a0 (fun (r1 : Int32) => ((r1 = (0 : Int32) → K (-2000000001 : Int32)) ∧ (¬ r1 = (0 : Int32) → wp_X10_within a1 (0 : Int32) (8000 : Int32) (fun (r3 : Int32) => ((¬ r3 = (0 : Int32) → wp_X10_lagAt s a0 a1 (fun (r5 : Int32) => K r5)) ∧ (r3 = (0 : Int32) → K (-2000000001 : Int32)))))))
set_option maxHeartbeats 4000000 in
theorem sp_X10_lag {G : GX} {l : Launch} {d : Nat} {w : HW} {a : Nat} {s : RT} {a0 : Int32} {a1 : Int32} {K : Int32 → Prop} (hd : 2 ≤ d) (hQ : wp_X10_lag s a0 a1 K) : Sp G l m_X10_lag d 0 0 [.ref a, .int a0, .int a1] (put w a 22 (shM a s)) (fun r w2 => ∃ (r1 : Int32), r = some (.int r1) ∧ w2 = put w a 22 (shM a s) ∧ K r1) := by
  refine Sp.ofX k_X10_lag.1.1 (Nat.le_of_ble_eq_true rfl) ?_
  refine X.lv (lv2 := [(0, .ref a), (1, .int a0), (2, .int a1)]) rfl ?_
  refine x_iload_n 1 d_X10_lag_0 rfl rfl ?_
  refine x_invS (rest := []) (d' := d - 1) (mc' := 0) (ms' := 0) [.int a0] k_X10_isThree lk_X10_136 rfl rfl (Nat.le_of_ble_eq_true rfl) (by omega) (Nat.le_refl _) (Nat.le_refl _) d_X10_lag_1 ((sp_X10_isThree (d := d - 1) (by omega) hQ).mono (fun r w2 hr => ?_))
  obtain ⟨r1, rfl, rfl, hQ⟩ := hr
  refine x_if_eq (tgt := 18) d_X10_lag_4 (by decide) (fun c_4_2 => ?_) (fun c_4_2 => ?_)
  · have hQ := hQ.1 c_4_2
    refine x_ldc (v := (-2000000001 : Int32)) kc_X10_90 d_X10_lag_18 ?_
    refine x_goto (tgt := 29) d_X10_lag_20 (by decide) ?_
    exact x_iret (retI d_X10_lag_29 rfl) ⟨_, rfl, rfl, hQ⟩
  · have hQ := hQ.2 c_4_2
    refine x_iload_n 2 d_X10_lag_7 rfl rfl ?_
    refine x_iconst (v := (0 : Int32)) d_X10_lag_8 (by decide) ?_
    refine x_sipush (v := (8000 : Int32)) d_X10_lag_9 (by decide) ?_
    refine x_invS (rest := []) (d' := d - 1) (mc' := 0) (ms' := 0) [.int a1, .int (0 : Int32), .int (8000 : Int32)] k_X10_within lk_X10_86 rfl rfl (Nat.le_of_ble_eq_true rfl) (by omega) (Nat.le_refl _) (Nat.le_refl _) d_X10_lag_12 ((sp_X10_within (d := d - 1) (by omega) hQ).mono (fun r w2 hr => ?_))
    obtain ⟨r3, rfl, rfl, hQ⟩ := hr
    refine x_if_ne (tgt := 23) d_X10_lag_15 (by decide) (fun c_15_4 => ?_) (fun c_15_4 => ?_)
    · have hQ := hQ.1 c_15_4
      refine x_aload_n 0 d_X10_lag_23 rfl rfl ?_
      refine x_iload_n 1 d_X10_lag_24 rfl rfl ?_
      refine x_iload_n 2 d_X10_lag_25 rfl rfl ?_
      refine x_invV (rest := []) (d' := d - 1) (mc' := 0) (ms' := 0) [.int a0, .int a1] k_X10_lagAt lk_X10_153 gM_0 rfl rfl rfl (Nat.le_of_ble_eq_true rfl) (by omega) (Nat.le_refl _) (Nat.le_refl _) d_X10_lag_26 ((sp_X10_lagAt (d := d - 1) (by omega) hQ).mono (fun r w2 hr => ?_))
      obtain ⟨r5, rfl, rfl, hQ⟩ := hr
      exact x_iret (retI d_X10_lag_29 rfl) ⟨_, rfl, rfl, hQ⟩
    · have hQ := hQ.2 c_15_4
      refine x_ldc (v := (-2000000001 : Int32)) kc_X10_90 d_X10_lag_18 ?_
      refine x_goto (tgt := 29) d_X10_lag_20 (by decide) ?_
      exact x_iret (retI d_X10_lag_29 rfl) ⟨_, rfl, rfl, hQ⟩
def jp_X10_madeFrom_29 (s : RT) (a0 : Int32) (a1 : Int32) (K : Int32 → Prop) (x_3 : Int32) : Prop := (((8000 : Int32) < x_3 → K (-1 : Int32)) ∧ (¬ (8000 : Int32) < x_3 → wp_X10_lagAt s a1 x_3 (fun (r4 : Int32) => ((¬ r4 = (0 : Int32) → K x_3) ∧ (r4 = (0 : Int32) → K (-1 : Int32))))))
set_option maxHeartbeats 4000000 in
theorem jt_X10_madeFrom_29 {G : GX} {l : Launch} {d : Nat} {w : HW} {a : Nat} {s : RT} {a0 : Int32} {a1 : Int32} {K : Int32 → Prop} (hd : 1 ≤ d) (x_3 : Int32) (hQ : jp_X10_madeFrom_29 s a0 a1 K x_3) : X G l m_X10_madeFrom d 0 0 0 0 29 [(0, .ref a), (2, .int a1), (3, .int x_3)] [] (put w a 22 (shM a s)) (fun r w2 => ∃ (r1 : Int32), r = some (.int r1) ∧ w2 = put w a 22 (shM a s) ∧ K r1) := by
  refine x_iload_n 2 d_X10_madeFrom_29 rfl rfl ?_
  refine x_sipush (v := (8000 : Int32)) d_X10_madeFrom_30 (by decide) ?_
  refine x_icmp_gt (tgt := 45) d_X10_madeFrom_33 (by decide) (fun c_33_3 => ?_) (fun c_33_3 => ?_)
  · have hQ := hQ.1 c_33_3
    refine x_iconst (v := (-1 : Int32)) d_X10_madeFrom_45 (by decide) ?_
    refine x_goto (tgt := 50) d_X10_madeFrom_46 (by decide) ?_
    exact x_iret (retI d_X10_madeFrom_50 rfl) ⟨_, rfl, rfl, hQ⟩
  · have hQ := hQ.2 c_33_3
    refine x_aload_n 0 d_X10_madeFrom_36 rfl rfl ?_
    refine x_iload_n 1 d_X10_madeFrom_37 rfl rfl ?_
    refine x_iload_n 2 d_X10_madeFrom_38 rfl rfl ?_
    refine x_invV (rest := []) (d' := d - 1) (mc' := 0) (ms' := 0) [.int a1, .int x_3] k_X10_lagAt lk_X10_153 gM_0 rfl rfl rfl (Nat.le_of_ble_eq_true rfl) (by omega) (Nat.le_refl _) (Nat.le_refl _) d_X10_madeFrom_39 ((sp_X10_lagAt (d := d - 1) (by omega) hQ).mono (fun r w2 hr => ?_))
    obtain ⟨r4, rfl, rfl, hQ⟩ := hr
    refine x_if_ne (tgt := 49) d_X10_madeFrom_42 (by decide) (fun c_42_5 => ?_) (fun c_42_5 => ?_)
    · have hQ := hQ.1 c_42_5
      refine x_iload_n 2 d_X10_madeFrom_49 rfl rfl ?_
      exact x_iret (retI d_X10_madeFrom_50 rfl) ⟨_, rfl, rfl, hQ⟩
    · have hQ := hQ.2 c_42_5
      refine x_iconst (v := (-1 : Int32)) d_X10_madeFrom_45 (by decide) ?_
      refine x_goto (tgt := 50) d_X10_madeFrom_46 (by decide) ?_
      exact x_iret (retI d_X10_madeFrom_50 rfl) ⟨_, rfl, rfl, hQ⟩
def lp_X10_madeFrom_4 (s : RT) (a0 : Int32) (a1 : Int32) (K : Int32 → Prop) : Nat → Int32 → Prop
  | 0, _ => False
  | n + 1, x_3 => (((8000 : Int32) < x_3 → jp_X10_madeFrom_29 s a0 a1 K x_3) ∧ (¬ (8000 : Int32) < x_3 → wp_X10_lagAt s a1 x_3 (fun (r6 : Int32) => ((a0 ≤ (x_3 - r6) → jp_X10_madeFrom_29 s a0 a1 K x_3) ∧ (¬ a0 ≤ (x_3 - r6) → ∀ x8 : Int32, x8 = x_3 + (1 : Int32) → lp_X10_madeFrom_4 s a0 a1 K n x8)))))
set_option maxHeartbeats 4000000 in
theorem jt_X10_madeFrom_4 {G : GX} {l : Launch} {d : Nat} {w : HW} {a : Nat} {s : RT} {a0 : Int32} {a1 : Int32} {K : Int32 → Prop} (hd : 1 ≤ d) : ∀ (n : Nat) (x_3 : Int32), lp_X10_madeFrom_4 s a0 a1 K n x_3 → X G l m_X10_madeFrom d 0 0 0 0 4 [(0, .ref a), (1, .int a0), (2, .int a1), (3, .int x_3)] [] (put w a 22 (shM a s)) (fun r w2 => ∃ (r1 : Int32), r = some (.int r1) ∧ w2 = put w a 22 (shM a s) ∧ K r1) := by
  intro n
  induction n with
  | zero =>
    intro x_3 hQ
    exact hQ.elim
  | succ n ih =>
    intro x_3 hQ
    refine x_iload_n 3 d_X10_madeFrom_4 rfl rfl ?_
    refine x_sipush (v := (8000 : Int32)) d_X10_madeFrom_5 (by decide) ?_
    refine x_icmp_gt (tgt := 29) d_X10_madeFrom_8 (by decide) (fun c_8_2 => ?_) (fun c_8_2 => ?_)
    · have hQ := hQ.1 c_8_2
      refine x_sub [0, 2, 3] (lv2 := [(0, .ref a), (2, .int a1), (3, .int x_3)]) rfl ?_
      exact jt_X10_madeFrom_29 hd x_3 hQ
    · have hQ := hQ.2 c_8_2
      refine x_iload_n 3 d_X10_madeFrom_11 rfl rfl ?_
      refine x_aload_n 0 d_X10_madeFrom_12 rfl rfl ?_
      refine x_iload_n 2 d_X10_madeFrom_13 rfl rfl ?_
      refine x_iload_n 3 d_X10_madeFrom_14 rfl rfl ?_
      refine x_invV (rest := [.int x_3]) (d' := d - 1) (mc' := 0) (ms' := 0) [.int a1, .int x_3] k_X10_lagAt lk_X10_153 gM_0 rfl rfl rfl (Nat.le_of_ble_eq_true rfl) (by omega) (Nat.le_refl _) (Nat.le_refl _) d_X10_madeFrom_15 ((sp_X10_lagAt (d := d - 1) (by omega) hQ).mono (fun r w2 hr => ?_))
      obtain ⟨r6, rfl, rfl, hQ⟩ := hr
      refine x_isub d_X10_madeFrom_18 ?_
      refine x_iload_n 1 d_X10_madeFrom_19 rfl rfl ?_
      refine x_icmp_ge (tgt := 29) d_X10_madeFrom_20 (by decide) (fun c_20_7 => ?_) (fun c_20_7 => ?_)
      · have hQ := hQ.1 c_20_7
        refine x_sub [0, 2, 3] (lv2 := [(0, .ref a), (2, .int a1), (3, .int x_3)]) rfl ?_
        exact jt_X10_madeFrom_29 hd x_3 hQ
      · have hQ := hQ.2 c_20_7
        obtain ⟨x8, e_x8⟩ : ∃ z : Int32, z = x_3 + (1 : Int32) := ⟨_, rfl⟩
        have hQ := hQ x8 e_x8
        refine x_iinc (v := x8) (lv2 := [(3, .int x8), (0, .ref a), (1, .int a0), (2, .int a1)]) 3 d_X10_madeFrom_23 rfl (by rw [e_x8]; rfl) (by decide) rfl ?_
        refine x_goto (tgt := 4) d_X10_madeFrom_26 (by decide) ?_
        refine x_sub [1, 2, 3, 0] (lv2 := [(0, .ref a), (1, .int a0), (2, .int a1), (3, .int x8)]) rfl ?_
        exact ih x8 hQ
def wp_X10_madeFrom (s : RT) (a0 : Int32) (a1 : Int32) (K : Int32 → Prop) : Prop := ∀ x1 : Int32, x1 = a0 + (1 : Int32) → ∃ m : Nat, lp_X10_madeFrom_4 s a0 a1 K m x1
set_option maxHeartbeats 4000000 in
theorem sp_X10_madeFrom {G : GX} {l : Launch} {d : Nat} {w : HW} {a : Nat} {s : RT} {a0 : Int32} {a1 : Int32} {K : Int32 → Prop} (hd : 1 ≤ d) (hQ : wp_X10_madeFrom s a0 a1 K) : Sp G l m_X10_madeFrom d 0 0 [.ref a, .int a0, .int a1] (put w a 22 (shM a s)) (fun r w2 => ∃ (r1 : Int32), r = some (.int r1) ∧ w2 = put w a 22 (shM a s) ∧ K r1) := by
  refine Sp.ofX k_X10_madeFrom.1.1 (Nat.le_of_ble_eq_true rfl) ?_
  refine X.lv (lv2 := [(0, .ref a), (1, .int a0), (2, .int a1)]) rfl ?_
  refine x_iload_n 1 d_X10_madeFrom_0 rfl rfl ?_
  refine x_iconst (v := (1 : Int32)) d_X10_madeFrom_1 (by decide) ?_
  refine x_iadd d_X10_madeFrom_2 ?_
  refine x_topi (fun x1 e_x1 => ?_)
  have hQ := hQ x1 e_x1
  refine x_istore_n (lv2 := [(3, .int x1), (0, .ref a), (1, .int a0), (2, .int a1)]) d_X10_madeFrom_3 rfl (by decide) rfl ?_
  refine x_sub [1, 2, 3, 0] (lv2 := [(0, .ref a), (1, .int a0), (2, .int a1), (3, .int x1)]) rfl ?_
  obtain ⟨m, hQ⟩ := hQ
  exact jt_X10_madeFrom_4 hd m x1 hQ
def lp_X10_breakWith_2 (s : RT) (a0 : Int32) (K : Int32 → Prop) : Nat → Int32 → Prop
  | 0, _ => False
  | n + 1, x_2 => (((s.2.2 10) ≤ x_2 → K (-1 : Int32)) ∧ (¬ (s.2.2 10) ≤ x_2 → vp_in x_2 64 ∧ ((¬ (s.1 6 x_2.toNatClampNeg) = a0 → ∀ x3 : Int32, x3 = x_2 + (1 : Int32) → lp_X10_breakWith_2 s a0 K n x3) ∧ ((s.1 6 x_2.toNatClampNeg) = a0 → K x_2))))
set_option maxHeartbeats 4000000 in
theorem jt_X10_breakWith_2 {G : GX} {l : Launch} {d : Nat} {w : HW} {a : Nat} {s : RT} {a0 : Int32} {K : Int32 → Prop} (hd : 0 ≤ d) : ∀ (n : Nat) (x_2 : Int32), lp_X10_breakWith_2 s a0 K n x_2 → X G l m_X10_breakWith d 0 0 0 0 2 [(0, .ref a), (1, .int a0), (2, .int x_2)] [] (put w a 22 (shM a s)) (fun r w2 => ∃ (r1 : Int32), r = some (.int r1) ∧ w2 = put w a 22 (shM a s) ∧ K r1) := by
  intro n
  induction n with
  | zero =>
    intro x_2 hQ
    exact hQ.elim
  | succ n ih =>
    intro x_2 hQ
    refine x_iload_n 2 d_X10_breakWith_2 rfl rfl ?_
    refine x_aload_n 0 d_X10_breakWith_3 rfl rfl ?_
    refine x_getf 10 gf_X10_156 gM_0 rfl d_X10_breakWith_4 ?_
    refine x_icmp_ge (tgt := 28) d_X10_breakWith_7 (by decide) (fun c_7_1 => ?_) (fun c_7_1 => ?_)
    · have hQ := hQ.1 c_7_1
      refine x_iconst (v := (-1 : Int32)) d_X10_breakWith_28 (by decide) ?_
      exact x_iret (retI d_X10_breakWith_29 rfl) ⟨_, rfl, rfl, hQ⟩
    · have hQ := hQ.2 c_7_1
      refine x_aload_n 0 d_X10_breakWith_10 rfl rfl ?_
      refine x_getf 7 gf_X10_25 gM_0 rfl d_X10_breakWith_11 ?_
      refine x_iload_n 2 d_X10_breakWith_14 rfl rfl ?_
      have hN := hQ.1
      have hQ := hQ.2
      refine x_iald gM_6 hN d_X10_breakWith_15 ?_
      refine x_iload_n 1 d_X10_breakWith_16 rfl rfl ?_
      refine x_icmp_ne (tgt := 22) d_X10_breakWith_17 (by decide) (fun c_17_2 => ?_) (fun c_17_2 => ?_)
      · have hQ := hQ.1 c_17_2
        obtain ⟨x3, e_x3⟩ : ∃ z : Int32, z = x_2 + (1 : Int32) := ⟨_, rfl⟩
        have hQ := hQ x3 e_x3
        refine x_iinc (v := x3) (lv2 := [(2, .int x3), (0, .ref a), (1, .int a0)]) 2 d_X10_breakWith_22 rfl (by rw [e_x3]; rfl) (by decide) rfl ?_
        refine x_goto (tgt := 2) d_X10_breakWith_25 (by decide) ?_
        refine x_sub [1, 2, 0] (lv2 := [(0, .ref a), (1, .int a0), (2, .int x3)]) rfl ?_
        exact ih x3 hQ
      · have hQ := hQ.2 c_17_2
        refine x_iload_n 2 d_X10_breakWith_20 rfl rfl ?_
        exact x_iret (retI d_X10_breakWith_21 rfl) ⟨_, rfl, rfl, hQ⟩
def wp_X10_breakWith (s : RT) (a0 : Int32) (K : Int32 → Prop) : Prop := ∃ m : Nat, lp_X10_breakWith_2 s a0 K m (0 : Int32)
set_option maxHeartbeats 4000000 in
theorem sp_X10_breakWith {G : GX} {l : Launch} {d : Nat} {w : HW} {a : Nat} {s : RT} {a0 : Int32} {K : Int32 → Prop} (hd : 0 ≤ d) (hQ : wp_X10_breakWith s a0 K) : Sp G l m_X10_breakWith d 0 0 [.ref a, .int a0] (put w a 22 (shM a s)) (fun r w2 => ∃ (r1 : Int32), r = some (.int r1) ∧ w2 = put w a 22 (shM a s) ∧ K r1) := by
  refine Sp.ofX k_X10_breakWith.1.1 (Nat.le_of_ble_eq_true rfl) ?_
  refine X.lv (lv2 := [(0, .ref a), (1, .int a0)]) rfl ?_
  refine x_iconst (v := (0 : Int32)) d_X10_breakWith_0 (by decide) ?_
  refine x_istore_n (lv2 := [(2, .int (0 : Int32)), (0, .ref a), (1, .int a0)]) d_X10_breakWith_1 rfl (by decide) rfl ?_
  refine x_sub [1, 2, 0] (lv2 := [(0, .ref a), (1, .int a0), (2, .int (0 : Int32))]) rfl ?_
  obtain ⟨m, hQ⟩ := hQ
  exact jt_X10_breakWith_2 hd m (0 : Int32) hQ
def wp_X10_makes (s : RT) (a0 : Int32) (a1 : Int32) (a2 : Int32) (K : RT → Prop) : Prop := wp_X10_breakWith s a0 (fun (r1 : Int32) => (((0 : Int32) ≤ r1 → vp_in r1 64 ∧ ((¬ (s.1 7 r1.toNatClampNeg) = a1 → K s) ∧ ((s.1 7 r1.toNatClampNeg) = a1 → vp_in r1 64 ∧ (((s.1 8 r1.toNatClampNeg) ≤ a2 → K s) ∧ (¬ (s.1 8 r1.toNatClampNeg) ≤ a2 → vp_in r1 64 ∧ ∀ s5 : RT, s5 = rI s 8 (upd (s.1 8) r1.toNatClampNeg a2) → K s5))))) ∧ (¬ (0 : Int32) ≤ r1 → vp_in (s.2.2 10) 64 ∧ ∀ s6 : RT, s6 = rI s 6 (upd (s.1 6) (s.2.2 10).toNatClampNeg a0) → vp_in (s6.2.2 10) 64 ∧ ∀ s7 : RT, s7 = rI s6 7 (upd (s6.1 7) (s6.2.2 10).toNatClampNeg a1) → vp_in (s7.2.2 10) 64 ∧ ∀ s8 : RT, s8 = rI s7 8 (upd (s7.1 8) (s7.2.2 10).toNatClampNeg a2) → ∀ s9 : RT, s9 = rS s8 10 ((s8.2.2 10) + (1 : Int32)) → K s9)))
set_option maxHeartbeats 4000000 in
theorem sp_X10_makes {G : GX} {l : Launch} {d : Nat} {w : HW} {a : Nat} {s : RT} {a0 : Int32} {a1 : Int32} {a2 : Int32} {K : RT → Prop} (hd : 1 ≤ d) (hQ : wp_X10_makes s a0 a1 a2 K) : Sp G l m_X10_makes d 0 0 [.ref a, .int a0, .int a1, .int a2] (put w a 22 (shM a s)) (fun r w2 => ∃ (z0 : RT), r = none ∧ w2 = put w a 22 (shM a z0) ∧ K z0) := by
  refine Sp.ofX k_X10_makes.1.1 (Nat.le_of_ble_eq_true rfl) ?_
  refine X.lv (lv2 := [(0, .ref a), (1, .int a0), (2, .int a1), (3, .int a2)]) rfl ?_
  refine x_aload_n 0 d_X10_makes_0 rfl rfl ?_
  refine x_iload_n 1 d_X10_makes_1 rfl rfl ?_
  refine x_invV (rest := []) (d' := d - 1) (mc' := 0) (ms' := 0) [.int a0] k_X10_breakWith lk_X10_159 gM_0 rfl rfl rfl (Nat.le_of_ble_eq_true rfl) (by omega) (Nat.le_refl _) (Nat.le_refl _) d_X10_makes_2 ((sp_X10_breakWith (d := d - 1) (by omega) hQ).mono (fun r w2 hr => ?_))
  obtain ⟨r1, rfl, rfl, hQ⟩ := hr
  refine x_istore (lv2 := [(4, .int r1), (0, .ref a), (1, .int a0), (2, .int a1), (3, .int a2)]) d_X10_makes_5 (by decide) rfl ?_
  refine x_iload 0 d_X10_makes_7 rfl ?_
  refine x_if_ge (tgt := 55) d_X10_makes_9 (by decide) (fun c_9_2 => ?_) (fun c_9_2 => ?_)
  · have hQ := hQ.1 c_9_2
    refine x_aload_n 1 d_X10_makes_55 rfl rfl ?_
    refine x_getf 8 gf_X10_28 gM_0 rfl d_X10_makes_56 ?_
    refine x_iload 0 d_X10_makes_59 rfl ?_
    have hN := hQ.1
    have hQ := hQ.2
    refine x_iald gM_7 hN d_X10_makes_61 ?_
    refine x_iload_n 3 d_X10_makes_62 rfl rfl ?_
    refine x_icmp_ne (tgt := 85) d_X10_makes_63 (by decide) (fun c_63_3 => ?_) (fun c_63_3 => ?_)
    · have hQ := hQ.1 c_63_3
      exact x_vret (retV d_X10_makes_85 rfl) ⟨_, rfl, rfl, hQ⟩
    · have hQ := hQ.2 c_63_3
      refine x_iload_n 4 d_X10_makes_66 rfl rfl ?_
      refine x_aload_n 1 d_X10_makes_67 rfl rfl ?_
      refine x_getf 9 gf_X10_31 gM_0 rfl d_X10_makes_68 ?_
      refine x_iload 0 d_X10_makes_71 rfl ?_
      have hN := hQ.1
      have hQ := hQ.2
      refine x_iald gM_8 hN d_X10_makes_73 ?_
      refine x_icmp_ge (tgt := 85) d_X10_makes_74 (by decide) (fun c_74_4 => ?_) (fun c_74_4 => ?_)
      · have hQ := hQ.1 c_74_4
        exact x_vret (retV d_X10_makes_85 rfl) ⟨_, rfl, rfl, hQ⟩
      · have hQ := hQ.2 c_74_4
        refine x_aload_n 1 d_X10_makes_77 rfl rfl ?_
        refine x_getf 9 gf_X10_31 gM_0 rfl d_X10_makes_78 ?_
        refine x_iload 0 d_X10_makes_81 rfl ?_
        refine x_iload_n 4 d_X10_makes_83 rfl rfl ?_
        have hN := hQ.1
        have hQ := hQ.2
        refine x_iast gM_8 hN d_X10_makes_84 ?_
        obtain ⟨s5, e_s5⟩ : ∃ z : RT, z = rI s 8 (upd (s.1 8) r1.toNatClampNeg a2) := ⟨_, rfl⟩
        have hQ := hQ s5 e_s5
        refine X.world (w2 := put w a 22 (shM a s5)) (by rw [e_s5]; exact sM_8) ?_
        exact x_vret (retV d_X10_makes_85 rfl) ⟨_, rfl, rfl, hQ⟩
  · have hQ := hQ.2 c_9_2
    refine x_aload_n 1 d_X10_makes_12 rfl rfl ?_
    refine x_getf 7 gf_X10_25 gM_0 rfl d_X10_makes_13 ?_
    refine x_aload_n 1 d_X10_makes_16 rfl rfl ?_
    refine x_getf 10 gf_X10_156 gM_0 rfl d_X10_makes_17 ?_
    refine x_iload_n 2 d_X10_makes_20 rfl rfl ?_
    have hN := hQ.1
    have hQ := hQ.2
    refine x_iast gM_6 hN d_X10_makes_21 ?_
    obtain ⟨s6, e_s6⟩ : ∃ z : RT, z = rI s 6 (upd (s.1 6) (s.2.2 10).toNatClampNeg a0) := ⟨_, rfl⟩
    have hQ := hQ s6 e_s6
    refine X.world (w2 := put w a 22 (shM a s6)) (by rw [e_s6]; exact sM_6) ?_
    refine x_aload_n 1 d_X10_makes_22 rfl rfl ?_
    refine x_getf 8 gf_X10_28 gM_0 rfl d_X10_makes_23 ?_
    refine x_aload_n 1 d_X10_makes_26 rfl rfl ?_
    refine x_getf 10 gf_X10_156 gM_0 rfl d_X10_makes_27 ?_
    refine x_iload_n 3 d_X10_makes_30 rfl rfl ?_
    have hN := hQ.1
    have hQ := hQ.2
    refine x_iast gM_7 hN d_X10_makes_31 ?_
    obtain ⟨s7, e_s7⟩ : ∃ z : RT, z = rI s6 7 (upd (s6.1 7) (s6.2.2 10).toNatClampNeg a1) := ⟨_, rfl⟩
    have hQ := hQ s7 e_s7
    refine X.world (w2 := put w a 22 (shM a s7)) (by rw [e_s7]; exact sM_7) ?_
    refine x_aload_n 1 d_X10_makes_32 rfl rfl ?_
    refine x_getf 9 gf_X10_31 gM_0 rfl d_X10_makes_33 ?_
    refine x_aload_n 1 d_X10_makes_36 rfl rfl ?_
    refine x_getf 10 gf_X10_156 gM_0 rfl d_X10_makes_37 ?_
    refine x_iload_n 4 d_X10_makes_40 rfl rfl ?_
    have hN := hQ.1
    have hQ := hQ.2
    refine x_iast gM_8 hN d_X10_makes_41 ?_
    obtain ⟨s8, e_s8⟩ : ∃ z : RT, z = rI s7 8 (upd (s7.1 8) (s7.2.2 10).toNatClampNeg a2) := ⟨_, rfl⟩
    have hQ := hQ s8 e_s8
    refine X.world (w2 := put w a 22 (shM a s8)) (by rw [e_s8]; exact sM_8) ?_
    refine x_aload_n 1 d_X10_makes_42 rfl rfl ?_
    refine x_dup d_X10_makes_43 rfl ?_
    refine x_getf 10 gf_X10_156 gM_0 rfl d_X10_makes_44 ?_
    refine x_iconst (v := (1 : Int32)) d_X10_makes_47 (by decide) ?_
    refine x_iadd d_X10_makes_48 ?_
    refine x_putf 10 (.int) pf_X10_156 gM_0 rfl rfl (Nat.le_of_ble_eq_true rfl) d_X10_makes_49 ?_
    obtain ⟨s9, e_s9⟩ : ∃ z : RT, z = rS s8 10 ((s8.2.2 10) + (1 : Int32)) := ⟨_, rfl⟩
    have hQ := hQ s9 e_s9
    refine X.world (w2 := put w a 22 (shM a s9)) (by rw [e_s9]; exact sM_0_10) ?_
    refine x_goto (tgt := 85) d_X10_makes_52 (by decide) ?_
    exact x_vret (retV d_X10_makes_85 rfl) ⟨_, rfl, rfl, hQ⟩
def wp_X10_swaps (z : Nat) (f : Nat → Int32) (a1 : Int32) (K : (Nat → Int32) → Prop) : Prop := vp_in a1 z ∧ ∀ x1 : Int32, x1 = (f a1.toNatClampNeg) → vp_in (a1 - (1 : Int32)) z ∧ vp_in a1 z ∧ ∀ f2 : Nat → Int32, f2 = upd (f) a1.toNatClampNeg (f (a1 - (1 : Int32)).toNatClampNeg) → vp_in (a1 - (1 : Int32)) z ∧ ∀ f3 : Nat → Int32, f3 = upd (f2) (a1 - (1 : Int32)).toNatClampNeg x1 → K f3
set_option maxHeartbeats 4000000 in
theorem sp_X10_swaps {G : GX} {l : Launch} {d : Nat} {w : HW} {a : Nat} {z : Nat} {f : Nat → Int32} {a1 : Int32} {K : (Nat → Int32) → Prop} (hd : 0 ≤ d) (hQ : wp_X10_swaps z f a1 K) : Sp G l m_X10_swaps d 0 0 [.ref a, .int a1] (hset w a (cI z f)) (fun r w2 => ∃ (z0 : Nat → Int32), r = none ∧ w2 = hset w a (cI z z0) ∧ K z0) := by
  refine Sp.ofX k_X10_swaps.1.1 (Nat.le_of_ble_eq_true rfl) ?_
  refine X.lv (lv2 := [(0, .ref a), (1, .int a1)]) rfl ?_
  refine x_aload_n 0 d_X10_swaps_0 rfl rfl ?_
  refine x_iload_n 1 d_X10_swaps_1 rfl rfl ?_
  have hN := hQ.1
  have hQ := hQ.2
  refine x_iald hset_at hN d_X10_swaps_2 ?_
  refine x_topi (fun x1 e_x1 => ?_)
  have hQ := hQ x1 e_x1
  refine x_istore_n (lv2 := [(2, .int x1), (0, .ref a), (1, .int a1)]) d_X10_swaps_3 rfl (by decide) rfl ?_
  refine x_aload_n 1 d_X10_swaps_4 rfl rfl ?_
  refine x_iload_n 2 d_X10_swaps_5 rfl rfl ?_
  refine x_aload_n 1 d_X10_swaps_6 rfl rfl ?_
  refine x_iload_n 2 d_X10_swaps_7 rfl rfl ?_
  refine x_iconst (v := (1 : Int32)) d_X10_swaps_8 (by decide) ?_
  refine x_isub d_X10_swaps_9 ?_
  have hN := hQ.1
  have hQ := hQ.2
  refine x_iald hset_at hN d_X10_swaps_10 ?_
  have hN := hQ.1
  have hQ := hQ.2
  refine x_iast hset_at hN d_X10_swaps_11 ?_
  obtain ⟨f2, e_f2⟩ : ∃ z : Nat → Int32, z = upd (f) a1.toNatClampNeg (f (a1 - (1 : Int32)).toNatClampNeg) := ⟨_, rfl⟩
  have hQ := hQ f2 e_f2
  refine X.world (w2 := hset w a (cI z f2)) (by rw [e_f2]; exact hset_hset) ?_
  refine x_aload_n 1 d_X10_swaps_12 rfl rfl ?_
  refine x_iload_n 2 d_X10_swaps_13 rfl rfl ?_
  refine x_iconst (v := (1 : Int32)) d_X10_swaps_14 (by decide) ?_
  refine x_isub d_X10_swaps_15 ?_
  refine x_iload_n 0 d_X10_swaps_16 rfl rfl ?_
  have hN := hQ.1
  have hQ := hQ.2
  refine x_iast hset_at hN d_X10_swaps_17 ?_
  obtain ⟨f3, e_f3⟩ : ∃ z : Nat → Int32, z = upd (f2) (a1 - (1 : Int32)).toNatClampNeg x1 := ⟨_, rfl⟩
  have hQ := hQ f3 e_f3
  refine X.world (w2 := hset w a (cI z f3)) (by rw [e_f3]; exact hset_hset) ?_
  exact x_vret (retV d_X10_swaps_18 rfl) ⟨_, rfl, rfl, hQ⟩
theorem spa_X10_swaps {G : GX} {l : Launch} {d : Nat} {w : HW} {a : Nat} {z : Nat} {f : Nat → Int32} {a1 : Int32} {K : (Nat → Int32) → Prop} (hd : 0 ≤ d) (ha_a : w.1 a = some (cI z f)) (hQ : wp_X10_swaps z f a1 K) : Sp G l m_X10_swaps d 0 0 [.ref a, .int a1] w (fun r w2 => ∃ (z0 : Nat → Int32), r = none ∧ w2 = hset w a (cI z z0) ∧ K z0) := by
  have h := sp_X10_swaps (G := G) (l := l) (w := w) (a := a) hd hQ
  rw [hset_same ha_a] at h
  exact h
def lp_X10_findsBreaks_153 (K : RT → Prop) (k_143 : Int32 → RT → Prop) : Nat → Int32 → Int32 → RT → Prop
  | 0, _, _, _ => False
  | n + 1, x_2, x_3, y_0 => ((x_3 ≤ (0 : Int32) → ∀ x9 : Int32, x9 = x_2 + (1 : Int32) → k_143 x9 y_0) ∧ (¬ x_3 ≤ (0 : Int32) → vp_in x_3 64 ∧ vp_in (x_3 - (1 : Int32)) 64 ∧ (((y_0.1 6 (x_3 - (1 : Int32)).toNatClampNeg) ≤ (y_0.1 6 x_3.toNatClampNeg) → ∀ x11 : Int32, x11 = x_2 + (1 : Int32) → k_143 x11 y_0) ∧ (¬ (y_0.1 6 (x_3 - (1 : Int32)).toNatClampNeg) ≤ (y_0.1 6 x_3.toNatClampNeg) → wp_X10_swaps 64 (y_0.1 6) x_3 (fun (f12 : Nat → Int32) => ∀ s13 : RT, s13 = rI y_0 6 f12 → wp_X10_swaps 64 (s13.1 7) x_3 (fun (f14 : Nat → Int32) => ∀ s15 : RT, s15 = rI s13 7 f14 → wp_X10_swaps 64 (s15.1 8) x_3 (fun (f16 : Nat → Int32) => ∀ s17 : RT, s17 = rI s15 8 f16 → ∀ x18 : Int32, x18 = x_3 + (-1 : Int32) → lp_X10_findsBreaks_153  K k_143 n x_2 x18 s17)))))))
set_option maxHeartbeats 4000000 in
theorem jt_X10_findsBreaks_153 {G : GX} {l : Launch} {d : Nat} {w : HW} {a : Nat} {K : RT → Prop} {k_143 : Int32 → RT → Prop} (hd : 3 ≤ d) (hk_143 : ∀ (x_2 : Int32) (y_0 : RT), k_143 x_2 y_0 → X G l m_X10_findsBreaks d 0 0 0 0 143 [(0, .ref a), (2, .int x_2)] [] (put w a 22 (shM a y_0)) (fun r w2 => ∃ (z0 : RT), r = none ∧ w2 = put w a 22 (shM a z0) ∧ K z0)) : ∀ (n : Nat) (x_2 : Int32) (x_3 : Int32) (y_0 : RT), lp_X10_findsBreaks_153 K k_143 n x_2 x_3 y_0 → X G l m_X10_findsBreaks d 0 0 0 0 153 [(0, .ref a), (2, .int x_2), (3, .int x_3)] [] (put w a 22 (shM a y_0)) (fun r w2 => ∃ (z0 : RT), r = none ∧ w2 = put w a 22 (shM a z0) ∧ K z0) := by
  intro n
  induction n with
  | zero =>
    intro x_2 x_3 y_0 hQ
    exact hQ.elim
  | succ n ih =>
    intro x_2 x_3 y_0 hQ
    refine x_iload_n 2 d_X10_findsBreaks_153 rfl rfl ?_
    refine x_if_le (tgt := 204) d_X10_findsBreaks_154 (by decide) (fun c_154_8 => ?_) (fun c_154_8 => ?_)
    · have hQ := hQ.1 c_154_8
      obtain ⟨x9, e_x9⟩ : ∃ z : Int32, z = x_2 + (1 : Int32) := ⟨_, rfl⟩
      have hQ := hQ x9 e_x9
      refine x_iinc (v := x9) (lv2 := [(2, .int x9), (0, .ref a), (3, .int x_3)]) 1 d_X10_findsBreaks_204 rfl (by rw [e_x9]; rfl) (by decide) rfl ?_
      refine x_goto (tgt := 143) d_X10_findsBreaks_207 (by decide) ?_
      refine x_sub [1, 0] (lv2 := [(0, .ref a), (2, .int x9)]) rfl ?_
      exact hk_143 x9 y_0 hQ
    · have hQ := hQ.2 c_154_8
      refine x_aload_n 0 d_X10_findsBreaks_157 rfl rfl ?_
      refine x_getf 7 gf_X10_25 gM_0 rfl d_X10_findsBreaks_158 ?_
      refine x_iload_n 2 d_X10_findsBreaks_161 rfl rfl ?_
      have hN := hQ.1
      have hQ := hQ.2
      refine x_iald gM_6 hN d_X10_findsBreaks_162 ?_
      refine x_aload_n 0 d_X10_findsBreaks_163 rfl rfl ?_
      refine x_getf 7 gf_X10_25 gM_0 rfl d_X10_findsBreaks_164 ?_
      refine x_iload_n 2 d_X10_findsBreaks_167 rfl rfl ?_
      refine x_iconst (v := (1 : Int32)) d_X10_findsBreaks_168 (by decide) ?_
      refine x_isub d_X10_findsBreaks_169 ?_
      have hN := hQ.1
      have hQ := hQ.2
      refine x_iald gM_6 hN d_X10_findsBreaks_170 ?_
      refine x_icmp_ge (tgt := 204) d_X10_findsBreaks_171 (by decide) (fun c_171_10 => ?_) (fun c_171_10 => ?_)
      · have hQ := hQ.1 c_171_10
        obtain ⟨x11, e_x11⟩ : ∃ z : Int32, z = x_2 + (1 : Int32) := ⟨_, rfl⟩
        have hQ := hQ x11 e_x11
        refine x_iinc (v := x11) (lv2 := [(2, .int x11), (0, .ref a), (3, .int x_3)]) 1 d_X10_findsBreaks_204 rfl (by rw [e_x11]; rfl) (by decide) rfl ?_
        refine x_goto (tgt := 143) d_X10_findsBreaks_207 (by decide) ?_
        refine x_sub [1, 0] (lv2 := [(0, .ref a), (2, .int x11)]) rfl ?_
        exact hk_143 x11 y_0 hQ
      · have hQ := hQ.2 c_171_10
        refine x_aload_n 0 d_X10_findsBreaks_174 rfl rfl ?_
        refine x_getf 7 gf_X10_25 gM_0 rfl d_X10_findsBreaks_175 ?_
        refine x_iload_n 2 d_X10_findsBreaks_178 rfl rfl ?_
        refine x_invS (rest := []) (d' := d - 1) (mc' := 0) (ms' := 0) [.ref (a + 6), .int x_3] k_X10_swaps lk_X10_172 rfl rfl (Nat.le_of_ble_eq_true rfl) (by omega) (Nat.le_refl _) (Nat.le_refl _) d_X10_findsBreaks_179 ((spa_X10_swaps (d := d - 1) (by omega) gM_6 hQ).mono (fun r w2 hr => ?_))
        obtain ⟨f12, rfl, rfl, hQ⟩ := hr
        obtain ⟨s13, e_s13⟩ : ∃ z : RT, z = rI y_0 6 f12 := ⟨_, rfl⟩
        have hQ := hQ s13 e_s13
        refine X.world (w2 := put w a 22 (shM a s13)) (by rw [e_s13]; exact sM_6) ?_
        refine x_aload_n 0 d_X10_findsBreaks_182 rfl rfl ?_
        refine x_getf 8 gf_X10_28 gM_0 rfl d_X10_findsBreaks_183 ?_
        refine x_iload_n 2 d_X10_findsBreaks_186 rfl rfl ?_
        refine x_invS (rest := []) (d' := d - 1) (mc' := 0) (ms' := 0) [.ref (a + 7), .int x_3] k_X10_swaps lk_X10_172 rfl rfl (Nat.le_of_ble_eq_true rfl) (by omega) (Nat.le_refl _) (Nat.le_refl _) d_X10_findsBreaks_187 ((spa_X10_swaps (d := d - 1) (by omega) gM_7 hQ).mono (fun r w2 hr => ?_))
        obtain ⟨f14, rfl, rfl, hQ⟩ := hr
        obtain ⟨s15, e_s15⟩ : ∃ z : RT, z = rI s13 7 f14 := ⟨_, rfl⟩
        have hQ := hQ s15 e_s15
        refine X.world (w2 := put w a 22 (shM a s15)) (by rw [e_s15]; exact sM_7) ?_
        refine x_aload_n 0 d_X10_findsBreaks_190 rfl rfl ?_
        refine x_getf 9 gf_X10_31 gM_0 rfl d_X10_findsBreaks_191 ?_
        refine x_iload_n 2 d_X10_findsBreaks_194 rfl rfl ?_
        refine x_invS (rest := []) (d' := d - 1) (mc' := 0) (ms' := 0) [.ref (a + 8), .int x_3] k_X10_swaps lk_X10_172 rfl rfl (Nat.le_of_ble_eq_true rfl) (by omega) (Nat.le_refl _) (Nat.le_refl _) d_X10_findsBreaks_195 ((spa_X10_swaps (d := d - 1) (by omega) gM_8 hQ).mono (fun r w2 hr => ?_))
        obtain ⟨f16, rfl, rfl, hQ⟩ := hr
        obtain ⟨s17, e_s17⟩ : ∃ z : RT, z = rI s15 8 f16 := ⟨_, rfl⟩
        have hQ := hQ s17 e_s17
        refine X.world (w2 := put w a 22 (shM a s17)) (by rw [e_s17]; exact sM_8) ?_
        obtain ⟨x18, e_x18⟩ : ∃ z : Int32, z = x_3 + (-1 : Int32) := ⟨_, rfl⟩
        have hQ := hQ x18 e_x18
        refine x_iinc (v := x18) (lv2 := [(3, .int x18), (0, .ref a), (2, .int x_2)]) 2 d_X10_findsBreaks_198 rfl (by rw [e_x18]; rfl) (by decide) rfl ?_
        refine x_goto (tgt := 153) d_X10_findsBreaks_201 (by decide) ?_
        refine x_sub [1, 2, 0] (lv2 := [(0, .ref a), (2, .int x_2), (3, .int x18)]) rfl ?_
        exact ih x_2 x18 s17 hQ
def lp_X10_findsBreaks_143 (K : RT → Prop) : Nat → Int32 → RT → Prop
  | 0, _, _ => False
  | n + 1, x_2, y_0 => (((y_0.2.2 10) ≤ x_2 → K y_0) ∧ (¬ (y_0.2.2 10) ≤ x_2 → ∃ m : Nat, lp_X10_findsBreaks_153  K (fun v0 v1 => lp_X10_findsBreaks_143  K n v0 v1) m x_2 x_2 y_0))
set_option maxHeartbeats 4000000 in
theorem jt_X10_findsBreaks_143 {G : GX} {l : Launch} {d : Nat} {w : HW} {a : Nat} {K : RT → Prop} (hd : 3 ≤ d) : ∀ (n : Nat) (x_2 : Int32) (y_0 : RT), lp_X10_findsBreaks_143 K n x_2 y_0 → X G l m_X10_findsBreaks d 0 0 0 0 143 [(0, .ref a), (2, .int x_2)] [] (put w a 22 (shM a y_0)) (fun r w2 => ∃ (z0 : RT), r = none ∧ w2 = put w a 22 (shM a z0) ∧ K z0) := by
  intro n
  induction n with
  | zero =>
    intro x_2 y_0 hQ
    exact hQ.elim
  | succ n ih =>
    intro x_2 y_0 hQ
    refine x_iload_n 1 d_X10_findsBreaks_143 rfl rfl ?_
    refine x_aload_n 0 d_X10_findsBreaks_144 rfl rfl ?_
    refine x_getf 10 gf_X10_156 gM_0 rfl d_X10_findsBreaks_145 ?_
    refine x_icmp_ge (tgt := 210) d_X10_findsBreaks_148 (by decide) (fun c_148_7 => ?_) (fun c_148_7 => ?_)
    · have hQ := hQ.1 c_148_7
      exact x_vret (retV d_X10_findsBreaks_210 rfl) ⟨_, rfl, rfl, hQ⟩
    · have hQ := hQ.2 c_148_7
      refine x_iload_n 1 d_X10_findsBreaks_151 rfl rfl ?_
      refine x_istore_n (lv2 := [(3, .int x_2), (0, .ref a), (2, .int x_2)]) d_X10_findsBreaks_152 rfl (by decide) rfl ?_
      refine x_sub [1, 2, 0] (lv2 := [(0, .ref a), (2, .int x_2), (3, .int x_2)]) rfl ?_
      obtain ⟨m, hQ⟩ := hQ
      exact jt_X10_findsBreaks_153 hd ih m x_2 x_2 y_0 hQ
def jp_X10_findsBreaks_105 (K : RT → Prop) (k_34 : Int32 → Int32 → RT → Prop) (k_52 : Int32 → Int32 → Int32 → Int32 → RT → Prop) (k_61 : Int32 → Int32 → Int32 → Int32 → Int32 → RT → Prop) (x_1 : Int32) (x_2 : Int32) (x_3 : Int32) (x_4 : Int32) (x_5 : Int32) (t_0 : Int32) (y_0 : RT) : Prop := ((t_0 < (0 : Int32) → ∀ x26 : Int32, x26 = x_5 + (1 : Int32) → k_61 x_1 x_2 x_3 x_4 x26 y_0) ∧ (¬ t_0 < (0 : Int32) → wp_X10_makes y_0 t_0 (x_2 + (1 : Int32)) x_5 (fun (s27 : RT) => ∀ x28 : Int32, x28 = x_5 + (1 : Int32) → k_61 x_1 x_2 x_3 x_4 x28 s27)))
set_option maxHeartbeats 4000000 in
theorem jt_X10_findsBreaks_105 {G : GX} {l : Launch} {d : Nat} {w : HW} {a : Nat} {K : RT → Prop} {k_34 : Int32 → Int32 → RT → Prop} {k_52 : Int32 → Int32 → Int32 → Int32 → RT → Prop} {k_61 : Int32 → Int32 → Int32 → Int32 → Int32 → RT → Prop} (hd : 3 ≤ d) (hk_34 : ∀ (x_1 : Int32) (x_2 : Int32) (y_0 : RT), k_34 x_1 x_2 y_0 → X G l m_X10_findsBreaks d 0 0 0 0 34 [(0, .ref a), (1, .int x_1), (2, .int x_2)] [] (put w a 22 (shM a y_0)) (fun r w2 => ∃ (z0 : RT), r = none ∧ w2 = put w a 22 (shM a z0) ∧ K z0)) (hk_52 : ∀ (x_1 : Int32) (x_2 : Int32) (x_3 : Int32) (x_4 : Int32) (y_0 : RT), k_52 x_1 x_2 x_3 x_4 y_0 → X G l m_X10_findsBreaks d 0 0 0 0 52 [(0, .ref a), (1, .int x_1), (2, .int x_2), (3, .int x_3), (4, .int x_4)] [] (put w a 22 (shM a y_0)) (fun r w2 => ∃ (z0 : RT), r = none ∧ w2 = put w a 22 (shM a z0) ∧ K z0)) (hk_61 : ∀ (x_1 : Int32) (x_2 : Int32) (x_3 : Int32) (x_4 : Int32) (x_5 : Int32) (y_0 : RT), k_61 x_1 x_2 x_3 x_4 x_5 y_0 → X G l m_X10_findsBreaks d 0 0 0 0 61 [(0, .ref a), (1, .int x_1), (2, .int x_2), (3, .int x_3), (4, .int x_4), (5, .int x_5)] [] (put w a 22 (shM a y_0)) (fun r w2 => ∃ (z0 : RT), r = none ∧ w2 = put w a 22 (shM a z0) ∧ K z0)) (x_1 : Int32) (x_2 : Int32) (x_3 : Int32) (x_4 : Int32) (x_5 : Int32) (t_0 : Int32) (y_0 : RT) (hQ : jp_X10_findsBreaks_105 K k_34 k_52 k_61 x_1 x_2 x_3 x_4 x_5 t_0 y_0) : X G l m_X10_findsBreaks d 0 0 0 0 105 [(0, .ref a), (1, .int x_1), (2, .int x_2), (3, .int x_3), (4, .int x_4), (5, .int x_5)] [.int t_0] (put w a 22 (shM a y_0)) (fun r w2 => ∃ (z0 : RT), r = none ∧ w2 = put w a 22 (shM a z0) ∧ K z0) := by
  refine x_istore (lv2 := [(6, .int t_0), (0, .ref a), (1, .int x_1), (2, .int x_2), (3, .int x_3), (4, .int x_4), (5, .int x_5)]) d_X10_findsBreaks_105 (by decide) rfl ?_
  refine x_iload 0 d_X10_findsBreaks_107 rfl ?_
  refine x_if_lt (tgt := 123) d_X10_findsBreaks_109 (by decide) (fun c_109_25 => ?_) (fun c_109_25 => ?_)
  · have hQ := hQ.1 c_109_25
    obtain ⟨x26, e_x26⟩ : ∃ z : Int32, z = x_5 + (1 : Int32) := ⟨_, rfl⟩
    have hQ := hQ x26 e_x26
    refine x_iinc (v := x26) (lv2 := [(5, .int x26), (6, .int t_0), (0, .ref a), (1, .int x_1), (2, .int x_2), (3, .int x_3), (4, .int x_4)]) 6 d_X10_findsBreaks_123 rfl (by rw [e_x26]; rfl) (by decide) rfl ?_
    refine x_goto (tgt := 61) d_X10_findsBreaks_126 (by decide) ?_
    refine x_sub [2, 3, 4, 5, 6, 0] (lv2 := [(0, .ref a), (1, .int x_1), (2, .int x_2), (3, .int x_3), (4, .int x_4), (5, .int x26)]) rfl ?_
    exact hk_61 x_1 x_2 x_3 x_4 x26 y_0 hQ
  · have hQ := hQ.2 c_109_25
    refine x_aload_n 1 d_X10_findsBreaks_112 rfl rfl ?_
    refine x_iload 0 d_X10_findsBreaks_113 rfl ?_
    refine x_iload_n 3 d_X10_findsBreaks_115 rfl rfl ?_
    refine x_iconst (v := (1 : Int32)) d_X10_findsBreaks_116 (by decide) ?_
    refine x_iadd d_X10_findsBreaks_117 ?_
    refine x_iload 6 d_X10_findsBreaks_118 rfl ?_
    refine x_invV (rest := []) (d' := d - 1) (mc' := 0) (ms' := 0) [.int t_0, .int (x_2 + (1 : Int32)), .int x_5] k_X10_makes lk_X10_168 gM_0 rfl rfl rfl (Nat.le_of_ble_eq_true rfl) (by omega) (Nat.le_refl _) (Nat.le_refl _) d_X10_findsBreaks_120 ((sp_X10_makes (d := d - 1) (by omega) hQ).mono (fun r w2 hr => ?_))
    obtain ⟨s27, rfl, rfl, hQ⟩ := hr
    obtain ⟨x28, e_x28⟩ : ∃ z : Int32, z = x_5 + (1 : Int32) := ⟨_, rfl⟩
    have hQ := hQ x28 e_x28
    refine x_iinc (v := x28) (lv2 := [(5, .int x28), (6, .int t_0), (0, .ref a), (1, .int x_1), (2, .int x_2), (3, .int x_3), (4, .int x_4)]) 6 d_X10_findsBreaks_123 rfl (by rw [e_x28]; rfl) (by decide) rfl ?_
    refine x_goto (tgt := 61) d_X10_findsBreaks_126 (by decide) ?_
    refine x_sub [2, 3, 4, 5, 6, 0] (lv2 := [(0, .ref a), (1, .int x_1), (2, .int x_2), (3, .int x_3), (4, .int x_4), (5, .int x28)]) rfl ?_
    exact hk_61 x_1 x_2 x_3 x_4 x28 s27 hQ
def jp_X10_findsBreaks_104 (K : RT → Prop) (k_34 : Int32 → Int32 → RT → Prop) (k_52 : Int32 → Int32 → Int32 → Int32 → RT → Prop) (k_61 : Int32 → Int32 → Int32 → Int32 → Int32 → RT → Prop) (x_1 : Int32) (x_2 : Int32) (x_3 : Int32) (x_4 : Int32) (x_5 : Int32) (y_0 : RT) : Prop := jp_X10_findsBreaks_105  K k_34 k_52 k_61 x_1 x_2 x_3 x_4 x_5 (-1 : Int32) y_0
set_option maxHeartbeats 4000000 in
theorem jt_X10_findsBreaks_104 {G : GX} {l : Launch} {d : Nat} {w : HW} {a : Nat} {K : RT → Prop} {k_34 : Int32 → Int32 → RT → Prop} {k_52 : Int32 → Int32 → Int32 → Int32 → RT → Prop} {k_61 : Int32 → Int32 → Int32 → Int32 → Int32 → RT → Prop} (hd : 3 ≤ d) (hk_34 : ∀ (x_1 : Int32) (x_2 : Int32) (y_0 : RT), k_34 x_1 x_2 y_0 → X G l m_X10_findsBreaks d 0 0 0 0 34 [(0, .ref a), (1, .int x_1), (2, .int x_2)] [] (put w a 22 (shM a y_0)) (fun r w2 => ∃ (z0 : RT), r = none ∧ w2 = put w a 22 (shM a z0) ∧ K z0)) (hk_52 : ∀ (x_1 : Int32) (x_2 : Int32) (x_3 : Int32) (x_4 : Int32) (y_0 : RT), k_52 x_1 x_2 x_3 x_4 y_0 → X G l m_X10_findsBreaks d 0 0 0 0 52 [(0, .ref a), (1, .int x_1), (2, .int x_2), (3, .int x_3), (4, .int x_4)] [] (put w a 22 (shM a y_0)) (fun r w2 => ∃ (z0 : RT), r = none ∧ w2 = put w a 22 (shM a z0) ∧ K z0)) (hk_61 : ∀ (x_1 : Int32) (x_2 : Int32) (x_3 : Int32) (x_4 : Int32) (x_5 : Int32) (y_0 : RT), k_61 x_1 x_2 x_3 x_4 x_5 y_0 → X G l m_X10_findsBreaks d 0 0 0 0 61 [(0, .ref a), (1, .int x_1), (2, .int x_2), (3, .int x_3), (4, .int x_4), (5, .int x_5)] [] (put w a 22 (shM a y_0)) (fun r w2 => ∃ (z0 : RT), r = none ∧ w2 = put w a 22 (shM a z0) ∧ K z0)) (x_1 : Int32) (x_2 : Int32) (x_3 : Int32) (x_4 : Int32) (x_5 : Int32) (y_0 : RT) (hQ : jp_X10_findsBreaks_104 K k_34 k_52 k_61 x_1 x_2 x_3 x_4 x_5 y_0) : X G l m_X10_findsBreaks d 0 0 0 0 104 [(0, .ref a), (1, .int x_1), (2, .int x_2), (3, .int x_3), (4, .int x_4), (5, .int x_5)] [] (put w a 22 (shM a y_0)) (fun r w2 => ∃ (z0 : RT), r = none ∧ w2 = put w a 22 (shM a z0) ∧ K z0) := by
  refine x_iconst (v := (-1 : Int32)) d_X10_findsBreaks_104 (by decide) ?_
  refine x_sub [0, 1, 2, 3, 4, 5] (lv2 := [(0, .ref a), (1, .int x_1), (2, .int x_2), (3, .int x_3), (4, .int x_4), (5, .int x_5)]) rfl ?_
  exact jt_X10_findsBreaks_105 hd hk_34 hk_52 hk_61 x_1 x_2 x_3 x_4 x_5 (-1 : Int32) y_0 hQ
def lp_X10_findsBreaks_61 (K : RT → Prop) (k_34 : Int32 → Int32 → RT → Prop) (k_52 : Int32 → Int32 → Int32 → Int32 → RT → Prop) : Nat → Int32 → Int32 → Int32 → Int32 → Int32 → RT → Prop
  | 0, _, _, _, _, _, _ => False
  | n + 1, x_1, x_2, x_3, x_4, x_5, y_0 => (((3 : Int32) ≤ x_5 → ∀ x23 : Int32, x23 = x_4 + (1 : Int32) → k_52 x_1 x_2 x_3 x23 y_0) ∧ (¬ (3 : Int32) ≤ x_5 → vp_in x_4 64 ∧ ((¬ (y_0.1 7 x_4.toNatClampNeg) = x_2 → jp_X10_findsBreaks_104  K k_34 k_52 (fun v0 v1 v2 v3 v4 v5 => lp_X10_findsBreaks_61  K k_34 k_52 n v0 v1 v2 v3 v4 v5) x_1 x_2 x_3 x_4 x_5 y_0) ∧ ((y_0.1 7 x_4.toNatClampNeg) = x_2 → ((¬ ((x_1 >>> (x_5 &&& 31)) &&& (1 : Int32)) = (1 : Int32) → jp_X10_findsBreaks_104  K k_34 k_52 (fun v0 v1 v2 v3 v4 v5 => lp_X10_findsBreaks_61  K k_34 k_52 n v0 v1 v2 v3 v4 v5) x_1 x_2 x_3 x_4 x_5 y_0) ∧ (((x_1 >>> (x_5 &&& 31)) &&& (1 : Int32)) = (1 : Int32) → vp_in x_4 64 ∧ wp_X10_madeFrom y_0 (y_0.1 6 x_4.toNatClampNeg) x_5 (fun (r30 : Int32) => jp_X10_findsBreaks_105  K k_34 k_52 (fun v0 v1 v2 v3 v4 v5 => lp_X10_findsBreaks_61  K k_34 k_52 n v0 v1 v2 v3 v4 v5) x_1 x_2 x_3 x_4 x_5 r30 y_0)))))))
set_option maxHeartbeats 4000000 in
theorem jt_X10_findsBreaks_61 {G : GX} {l : Launch} {d : Nat} {w : HW} {a : Nat} {K : RT → Prop} {k_34 : Int32 → Int32 → RT → Prop} {k_52 : Int32 → Int32 → Int32 → Int32 → RT → Prop} (hd : 3 ≤ d) (hk_34 : ∀ (x_1 : Int32) (x_2 : Int32) (y_0 : RT), k_34 x_1 x_2 y_0 → X G l m_X10_findsBreaks d 0 0 0 0 34 [(0, .ref a), (1, .int x_1), (2, .int x_2)] [] (put w a 22 (shM a y_0)) (fun r w2 => ∃ (z0 : RT), r = none ∧ w2 = put w a 22 (shM a z0) ∧ K z0)) (hk_52 : ∀ (x_1 : Int32) (x_2 : Int32) (x_3 : Int32) (x_4 : Int32) (y_0 : RT), k_52 x_1 x_2 x_3 x_4 y_0 → X G l m_X10_findsBreaks d 0 0 0 0 52 [(0, .ref a), (1, .int x_1), (2, .int x_2), (3, .int x_3), (4, .int x_4)] [] (put w a 22 (shM a y_0)) (fun r w2 => ∃ (z0 : RT), r = none ∧ w2 = put w a 22 (shM a z0) ∧ K z0)) : ∀ (n : Nat) (x_1 : Int32) (x_2 : Int32) (x_3 : Int32) (x_4 : Int32) (x_5 : Int32) (y_0 : RT), lp_X10_findsBreaks_61 K k_34 k_52 n x_1 x_2 x_3 x_4 x_5 y_0 → X G l m_X10_findsBreaks d 0 0 0 0 61 [(0, .ref a), (1, .int x_1), (2, .int x_2), (3, .int x_3), (4, .int x_4), (5, .int x_5)] [] (put w a 22 (shM a y_0)) (fun r w2 => ∃ (z0 : RT), r = none ∧ w2 = put w a 22 (shM a z0) ∧ K z0) := by
  intro n
  induction n with
  | zero =>
    intro x_1 x_2 x_3 x_4 x_5 y_0 hQ
    exact hQ.elim
  | succ n ih =>
    intro x_1 x_2 x_3 x_4 x_5 y_0 hQ
    refine x_iload 5 d_X10_findsBreaks_61 rfl ?_
    refine x_iconst (v := (3 : Int32)) d_X10_findsBreaks_63 (by decide) ?_
    refine x_icmp_ge (tgt := 129) d_X10_findsBreaks_64 (by decide) (fun c_64_22 => ?_) (fun c_64_22 => ?_)
    · have hQ := hQ.1 c_64_22
      obtain ⟨x23, e_x23⟩ : ∃ z : Int32, z = x_4 + (1 : Int32) := ⟨_, rfl⟩
      have hQ := hQ x23 e_x23
      refine x_iinc (v := x23) (lv2 := [(4, .int x23), (0, .ref a), (1, .int x_1), (2, .int x_2), (3, .int x_3), (5, .int x_5)]) 4 d_X10_findsBreaks_129 rfl (by rw [e_x23]; rfl) (by decide) rfl ?_
      refine x_goto (tgt := 52) d_X10_findsBreaks_132 (by decide) ?_
      refine x_sub [1, 2, 3, 4, 0] (lv2 := [(0, .ref a), (1, .int x_1), (2, .int x_2), (3, .int x_3), (4, .int x23)]) rfl ?_
      exact hk_52 x_1 x_2 x_3 x23 y_0 hQ
    · have hQ := hQ.2 c_64_22
      refine x_aload_n 0 d_X10_findsBreaks_67 rfl rfl ?_
      refine x_getf 8 gf_X10_28 gM_0 rfl d_X10_findsBreaks_68 ?_
      refine x_iload 4 d_X10_findsBreaks_71 rfl ?_
      have hN := hQ.1
      have hQ := hQ.2
      refine x_iald gM_7 hN d_X10_findsBreaks_73 ?_
      refine x_iload_n 2 d_X10_findsBreaks_74 rfl rfl ?_
      refine x_icmp_ne (tgt := 104) d_X10_findsBreaks_75 (by decide) (fun c_75_24 => ?_) (fun c_75_24 => ?_)
      · have hQ := hQ.1 c_75_24
        refine x_sub [0, 1, 2, 3, 4, 5] (lv2 := [(0, .ref a), (1, .int x_1), (2, .int x_2), (3, .int x_3), (4, .int x_4), (5, .int x_5)]) rfl ?_
        exact jt_X10_findsBreaks_104 hd hk_34 hk_52 ih x_1 x_2 x_3 x_4 x_5 y_0 hQ
      · have hQ := hQ.2 c_75_24
        refine x_iload_n 1 d_X10_findsBreaks_78 rfl rfl ?_
        refine x_iload 5 d_X10_findsBreaks_79 rfl ?_
        refine x_ishr d_X10_findsBreaks_81 ?_
        refine x_iconst (v := (1 : Int32)) d_X10_findsBreaks_82 (by decide) ?_
        refine x_iand d_X10_findsBreaks_83 ?_
        refine x_iconst (v := (1 : Int32)) d_X10_findsBreaks_84 (by decide) ?_
        refine x_icmp_ne (tgt := 104) d_X10_findsBreaks_85 (by decide) (fun c_85_29 => ?_) (fun c_85_29 => ?_)
        · have hQ := hQ.1 c_85_29
          refine x_sub [0, 1, 2, 3, 4, 5] (lv2 := [(0, .ref a), (1, .int x_1), (2, .int x_2), (3, .int x_3), (4, .int x_4), (5, .int x_5)]) rfl ?_
          exact jt_X10_findsBreaks_104 hd hk_34 hk_52 ih x_1 x_2 x_3 x_4 x_5 y_0 hQ
        · have hQ := hQ.2 c_85_29
          refine x_aload_n 0 d_X10_findsBreaks_88 rfl rfl ?_
          refine x_aload_n 0 d_X10_findsBreaks_89 rfl rfl ?_
          refine x_getf 7 gf_X10_25 gM_0 rfl d_X10_findsBreaks_90 ?_
          refine x_iload 4 d_X10_findsBreaks_93 rfl ?_
          have hN := hQ.1
          have hQ := hQ.2
          refine x_iald gM_6 hN d_X10_findsBreaks_95 ?_
          refine x_iload 5 d_X10_findsBreaks_96 rfl ?_
          refine x_invV (rest := []) (d' := d - 1) (mc' := 0) (ms' := 0) [.int (y_0.1 6 x_4.toNatClampNeg), .int x_5] k_X10_madeFrom lk_X10_165 gM_0 rfl rfl rfl (Nat.le_of_ble_eq_true rfl) (by omega) (Nat.le_refl _) (Nat.le_refl _) d_X10_findsBreaks_98 ((sp_X10_madeFrom (d := d - 1) (by omega) hQ).mono (fun r w2 hr => ?_))
          obtain ⟨r30, rfl, rfl, hQ⟩ := hr
          refine x_goto (tgt := 105) d_X10_findsBreaks_101 (by decide) ?_
          refine x_sub [0, 1, 2, 3, 4, 5] (lv2 := [(0, .ref a), (1, .int x_1), (2, .int x_2), (3, .int x_3), (4, .int x_4), (5, .int x_5)]) rfl ?_
          exact jt_X10_findsBreaks_105 hd hk_34 hk_52 ih x_1 x_2 x_3 x_4 x_5 r30 y_0 hQ
def lp_X10_findsBreaks_52 (K : RT → Prop) (k_34 : Int32 → Int32 → RT → Prop) : Nat → Int32 → Int32 → Int32 → Int32 → RT → Prop
  | 0, _, _, _, _, _ => False
  | n + 1, x_1, x_2, x_3, x_4, y_0 => ((x_3 ≤ x_4 → ∀ x21 : Int32, x21 = x_2 + (1 : Int32) → k_34 x_1 x21 y_0) ∧ (¬ x_3 ≤ x_4 → ∃ m : Nat, lp_X10_findsBreaks_61  K k_34 (fun v0 v1 v2 v3 v4 => lp_X10_findsBreaks_52  K k_34 n v0 v1 v2 v3 v4) m x_1 x_2 x_3 x_4 (0 : Int32) y_0))
set_option maxHeartbeats 4000000 in
theorem jt_X10_findsBreaks_52 {G : GX} {l : Launch} {d : Nat} {w : HW} {a : Nat} {K : RT → Prop} {k_34 : Int32 → Int32 → RT → Prop} (hd : 3 ≤ d) (hk_34 : ∀ (x_1 : Int32) (x_2 : Int32) (y_0 : RT), k_34 x_1 x_2 y_0 → X G l m_X10_findsBreaks d 0 0 0 0 34 [(0, .ref a), (1, .int x_1), (2, .int x_2)] [] (put w a 22 (shM a y_0)) (fun r w2 => ∃ (z0 : RT), r = none ∧ w2 = put w a 22 (shM a z0) ∧ K z0)) : ∀ (n : Nat) (x_1 : Int32) (x_2 : Int32) (x_3 : Int32) (x_4 : Int32) (y_0 : RT), lp_X10_findsBreaks_52 K k_34 n x_1 x_2 x_3 x_4 y_0 → X G l m_X10_findsBreaks d 0 0 0 0 52 [(0, .ref a), (1, .int x_1), (2, .int x_2), (3, .int x_3), (4, .int x_4)] [] (put w a 22 (shM a y_0)) (fun r w2 => ∃ (z0 : RT), r = none ∧ w2 = put w a 22 (shM a z0) ∧ K z0) := by
  intro n
  induction n with
  | zero =>
    intro x_1 x_2 x_3 x_4 y_0 hQ
    exact hQ.elim
  | succ n ih =>
    intro x_1 x_2 x_3 x_4 y_0 hQ
    refine x_iload 4 d_X10_findsBreaks_52 rfl ?_
    refine x_iload_n 3 d_X10_findsBreaks_54 rfl rfl ?_
    refine x_icmp_ge (tgt := 135) d_X10_findsBreaks_55 (by decide) (fun c_55_20 => ?_) (fun c_55_20 => ?_)
    · have hQ := hQ.1 c_55_20
      obtain ⟨x21, e_x21⟩ : ∃ z : Int32, z = x_2 + (1 : Int32) := ⟨_, rfl⟩
      have hQ := hQ x21 e_x21
      refine x_iinc (v := x21) (lv2 := [(2, .int x21), (0, .ref a), (1, .int x_1), (3, .int x_3), (4, .int x_4)]) 2 d_X10_findsBreaks_135 rfl (by rw [e_x21]; rfl) (by decide) rfl ?_
      refine x_goto (tgt := 34) d_X10_findsBreaks_138 (by decide) ?_
      refine x_sub [1, 2, 0] (lv2 := [(0, .ref a), (1, .int x_1), (2, .int x21)]) rfl ?_
      exact hk_34 x_1 x21 y_0 hQ
    · have hQ := hQ.2 c_55_20
      refine x_iconst (v := (0 : Int32)) d_X10_findsBreaks_58 (by decide) ?_
      refine x_istore (lv2 := [(5, .int (0 : Int32)), (0, .ref a), (1, .int x_1), (2, .int x_2), (3, .int x_3), (4, .int x_4)]) d_X10_findsBreaks_59 (by decide) rfl ?_
      refine x_sub [1, 2, 3, 4, 5, 0] (lv2 := [(0, .ref a), (1, .int x_1), (2, .int x_2), (3, .int x_3), (4, .int x_4), (5, .int (0 : Int32))]) rfl ?_
      obtain ⟨m, hQ⟩ := hQ
      exact jt_X10_findsBreaks_61 hd hk_34 ih m x_1 x_2 x_3 x_4 (0 : Int32) y_0 hQ
def lp_X10_findsBreaks_34 (K : RT → Prop) : Nat → Int32 → Int32 → RT → Prop
  | 0, _, _, _ => False
  | n + 1, x_1, x_2, y_0 => vp_in (2 : Int32) 812 ∧ (((y_0.1 1 (2 : Int32).toNatClampNeg) ≤ x_2 → ∃ m : Nat, lp_X10_findsBreaks_143  K m (1 : Int32) y_0) ∧ (¬ (y_0.1 1 (2 : Int32).toNatClampNeg) ≤ x_2 → ∀ x19 : Int32, x19 = (y_0.2.2 10) → ∃ m : Nat, lp_X10_findsBreaks_52  K (fun v0 v1 v2 => lp_X10_findsBreaks_34  K n v0 v1 v2) m x_1 x_2 x19 (0 : Int32) y_0))
set_option maxHeartbeats 4000000 in
theorem jt_X10_findsBreaks_34 {G : GX} {l : Launch} {d : Nat} {w : HW} {a : Nat} {K : RT → Prop} (hd : 3 ≤ d) : ∀ (n : Nat) (x_1 : Int32) (x_2 : Int32) (y_0 : RT), lp_X10_findsBreaks_34 K n x_1 x_2 y_0 → X G l m_X10_findsBreaks d 0 0 0 0 34 [(0, .ref a), (1, .int x_1), (2, .int x_2)] [] (put w a 22 (shM a y_0)) (fun r w2 => ∃ (z0 : RT), r = none ∧ w2 = put w a 22 (shM a z0) ∧ K z0) := by
  intro n
  induction n with
  | zero =>
    intro x_1 x_2 y_0 hQ
    exact hQ.elim
  | succ n ih =>
    intro x_1 x_2 y_0 hQ
    refine x_iload_n 2 d_X10_findsBreaks_34 rfl rfl ?_
    refine x_aload_n 0 d_X10_findsBreaks_35 rfl rfl ?_
    refine x_getf 0 gf_X10_7 gM_0 rfl d_X10_findsBreaks_36 ?_
    refine x_iconst (v := (2 : Int32)) d_X10_findsBreaks_39 (by decide) ?_
    have hN := hQ.1
    have hQ := hQ.2
    refine x_iald gM_1 hN d_X10_findsBreaks_40 ?_
    refine x_icmp_ge (tgt := 141) d_X10_findsBreaks_41 (by decide) (fun c_41_6 => ?_) (fun c_41_6 => ?_)
    · have hQ := hQ.1 c_41_6
      refine x_iconst (v := (1 : Int32)) d_X10_findsBreaks_141 (by decide) ?_
      refine x_istore_n (lv2 := [(2, .int (1 : Int32)), (0, .ref a), (1, .int x_1)]) d_X10_findsBreaks_142 rfl (by decide) rfl ?_
      refine x_sub [1, 0] (lv2 := [(0, .ref a), (2, .int (1 : Int32))]) rfl ?_
      obtain ⟨m, hQ⟩ := hQ
      exact jt_X10_findsBreaks_143 hd m (1 : Int32) y_0 hQ
    · have hQ := hQ.2 c_41_6
      refine x_aload_n 0 d_X10_findsBreaks_44 rfl rfl ?_
      refine x_getf 10 gf_X10_156 gM_0 rfl d_X10_findsBreaks_45 ?_
      refine x_topi (fun x19 e_x19 => ?_)
      have hQ := hQ x19 e_x19
      refine x_istore_n (lv2 := [(3, .int x19), (0, .ref a), (1, .int x_1), (2, .int x_2)]) d_X10_findsBreaks_48 rfl (by decide) rfl ?_
      refine x_iconst (v := (0 : Int32)) d_X10_findsBreaks_49 (by decide) ?_
      refine x_istore (lv2 := [(4, .int (0 : Int32)), (3, .int x19), (0, .ref a), (1, .int x_1), (2, .int x_2)]) d_X10_findsBreaks_50 (by decide) rfl ?_
      refine x_sub [2, 3, 4, 1, 0] (lv2 := [(0, .ref a), (1, .int x_1), (2, .int x_2), (3, .int x19), (4, .int (0 : Int32))]) rfl ?_
      obtain ⟨m, hQ⟩ := hQ
      exact jt_X10_findsBreaks_52 hd ih m x_1 x_2 x19 (0 : Int32) y_0 hQ
def wp_X10_findsBreaks (s : RT) (K : RT → Prop) : Prop := vp_in (0 : Int32) 64 ∧ ∀ s1 : RT, s1 = rI s 6 (upd (s.1 6) (0 : Int32).toNatClampNeg (0 : Int32)) → vp_in (0 : Int32) 64 ∧ ∀ s2 : RT, s2 = rI s1 7 (upd (s1.1 7) (0 : Int32).toNatClampNeg (0 : Int32)) → vp_in (0 : Int32) 64 ∧ ∀ s3 : RT, s3 = rI s2 8 (upd (s2.1 8) (0 : Int32).toNatClampNeg (-2000000004 : Int32)) → ∀ s4 : RT, s4 = rS s3 10 (1 : Int32) → wp_X10_used s4 (fun (r5 : Int32) => ∃ m : Nat, lp_X10_findsBreaks_34  K m r5 (0 : Int32) s4)
set_option maxHeartbeats 4000000 in
theorem sp_X10_findsBreaks {G : GX} {l : Launch} {d : Nat} {w : HW} {a : Nat} {s : RT} {K : RT → Prop} (hd : 3 ≤ d) (hQ : wp_X10_findsBreaks s K) : Sp G l m_X10_findsBreaks d 0 0 [.ref a] (put w a 22 (shM a s)) (fun r w2 => ∃ (z0 : RT), r = none ∧ w2 = put w a 22 (shM a z0) ∧ K z0) := by
  refine Sp.ofX k_X10_findsBreaks.1.1 (Nat.le_of_ble_eq_true rfl) ?_
  refine X.lv (lv2 := [(0, .ref a)]) rfl ?_
  refine x_aload_n 0 d_X10_findsBreaks_0 rfl rfl ?_
  refine x_getf 7 gf_X10_25 gM_0 rfl d_X10_findsBreaks_1 ?_
  refine x_iconst (v := (0 : Int32)) d_X10_findsBreaks_4 (by decide) ?_
  refine x_iconst (v := (0 : Int32)) d_X10_findsBreaks_5 (by decide) ?_
  have hN := hQ.1
  have hQ := hQ.2
  refine x_iast gM_6 hN d_X10_findsBreaks_6 ?_
  obtain ⟨s1, e_s1⟩ : ∃ z : RT, z = rI s 6 (upd (s.1 6) (0 : Int32).toNatClampNeg (0 : Int32)) := ⟨_, rfl⟩
  have hQ := hQ s1 e_s1
  refine X.world (w2 := put w a 22 (shM a s1)) (by rw [e_s1]; exact sM_6) ?_
  refine x_aload_n 0 d_X10_findsBreaks_7 rfl rfl ?_
  refine x_getf 8 gf_X10_28 gM_0 rfl d_X10_findsBreaks_8 ?_
  refine x_iconst (v := (0 : Int32)) d_X10_findsBreaks_11 (by decide) ?_
  refine x_iconst (v := (0 : Int32)) d_X10_findsBreaks_12 (by decide) ?_
  have hN := hQ.1
  have hQ := hQ.2
  refine x_iast gM_7 hN d_X10_findsBreaks_13 ?_
  obtain ⟨s2, e_s2⟩ : ∃ z : RT, z = rI s1 7 (upd (s1.1 7) (0 : Int32).toNatClampNeg (0 : Int32)) := ⟨_, rfl⟩
  have hQ := hQ s2 e_s2
  refine X.world (w2 := put w a 22 (shM a s2)) (by rw [e_s2]; exact sM_7) ?_
  refine x_aload_n 0 d_X10_findsBreaks_14 rfl rfl ?_
  refine x_getf 9 gf_X10_31 gM_0 rfl d_X10_findsBreaks_15 ?_
  refine x_iconst (v := (0 : Int32)) d_X10_findsBreaks_18 (by decide) ?_
  refine x_ldc (v := (-2000000004 : Int32)) kc_X10_125 d_X10_findsBreaks_19 ?_
  have hN := hQ.1
  have hQ := hQ.2
  refine x_iast gM_8 hN d_X10_findsBreaks_21 ?_
  obtain ⟨s3, e_s3⟩ : ∃ z : RT, z = rI s2 8 (upd (s2.1 8) (0 : Int32).toNatClampNeg (-2000000004 : Int32)) := ⟨_, rfl⟩
  have hQ := hQ s3 e_s3
  refine X.world (w2 := put w a 22 (shM a s3)) (by rw [e_s3]; exact sM_8) ?_
  refine x_aload_n 0 d_X10_findsBreaks_22 rfl rfl ?_
  refine x_iconst (v := (1 : Int32)) d_X10_findsBreaks_23 (by decide) ?_
  refine x_putf 10 (.int) pf_X10_156 gM_0 rfl rfl (Nat.le_of_ble_eq_true rfl) d_X10_findsBreaks_24 ?_
  obtain ⟨s4, e_s4⟩ : ∃ z : RT, z = rS s3 10 (1 : Int32) := ⟨_, rfl⟩
  have hQ := hQ s4 e_s4
  refine X.world (w2 := put w a 22 (shM a s4)) (by rw [e_s4]; exact sM_0_10) ?_
  refine x_aload_n 0 d_X10_findsBreaks_27 rfl rfl ?_
  refine x_invV (rest := []) (d' := d - 1) (mc' := 0) (ms' := 0) [] k_X10_used lk_X10_162 gM_0 rfl rfl rfl (Nat.le_of_ble_eq_true rfl) (by omega) (Nat.le_refl _) (Nat.le_refl _) d_X10_findsBreaks_28 ((sp_X10_used (d := d - 1) (by omega) hQ).mono (fun r w2 hr => ?_))
  obtain ⟨r5, rfl, rfl, hQ⟩ := hr
  refine x_istore_n (lv2 := [(1, .int r5), (0, .ref a)]) d_X10_findsBreaks_31 rfl (by decide) rfl ?_
  refine x_iconst (v := (0 : Int32)) d_X10_findsBreaks_32 (by decide) ?_
  refine x_istore_n (lv2 := [(2, .int (0 : Int32)), (1, .int r5), (0, .ref a)]) d_X10_findsBreaks_33 rfl (by decide) rfl ?_
  refine x_sub [2, 1, 0] (lv2 := [(0, .ref a), (1, .int r5), (2, .int (0 : Int32))]) rfl ?_
  obtain ⟨m, hQ⟩ := hQ
  exact jt_X10_findsBreaks_34 hd m r5 (0 : Int32) s4 hQ
def wp_X10_breakAt (s : RT) (a0 : Int32) (a1 : Int32) (K : Int32 → Prop) : Prop := ((a0 < (0 : Int32) → K (-2000000001 : Int32)) ∧ (¬ a0 < (0 : Int32) → wp_X10_within a1 (0 : Int32) (2 : Int32) (fun (r2 : Int32) => ((¬ r2 = (0 : Int32) → ((a0 < (s.2.2 10) → ((¬ a1 = (0 : Int32) → ((¬ a1 = (1 : Int32) → vp_in a0 64 ∧ K (s.1 8 a0.toNatClampNeg)) ∧ (a1 = (1 : Int32) → vp_in a0 64 ∧ K (s.1 7 a0.toNatClampNeg)))) ∧ (a1 = (0 : Int32) → vp_in a0 64 ∧ K (s.1 6 a0.toNatClampNeg)))) ∧ (¬ a0 < (s.2.2 10) → K (-2000000004 : Int32)))) ∧ (r2 = (0 : Int32) → K (-2000000001 : Int32))))))
set_option maxHeartbeats 4000000 in
theorem sp_X10_breakAt {G : GX} {l : Launch} {d : Nat} {w : HW} {a : Nat} {s : RT} {a0 : Int32} {a1 : Int32} {K : Int32 → Prop} (hd : 1 ≤ d) (hQ : wp_X10_breakAt s a0 a1 K) : Sp G l m_X10_breakAt d 0 0 [.ref a, .int a0, .int a1] (put w a 22 (shM a s)) (fun r w2 => ∃ (r1 : Int32), r = some (.int r1) ∧ w2 = put w a 22 (shM a s) ∧ K r1) := by
  refine Sp.ofX k_X10_breakAt.1.1 (Nat.le_of_ble_eq_true rfl) ?_
  refine X.lv (lv2 := [(0, .ref a), (1, .int a0), (2, .int a1)]) rfl ?_
  refine x_iload_n 1 d_X10_breakAt_0 rfl rfl ?_
  refine x_if_lt (tgt := 13) d_X10_breakAt_1 (by decide) (fun c_1_1 => ?_) (fun c_1_1 => ?_)
  · have hQ := hQ.1 c_1_1
    refine x_ldc (v := (-2000000001 : Int32)) kc_X10_90 d_X10_breakAt_13 ?_
    exact x_iret (retI d_X10_breakAt_15 rfl) ⟨_, rfl, rfl, hQ⟩
  · have hQ := hQ.2 c_1_1
    refine x_iload_n 2 d_X10_breakAt_4 rfl rfl ?_
    refine x_iconst (v := (0 : Int32)) d_X10_breakAt_5 (by decide) ?_
    refine x_iconst (v := (2 : Int32)) d_X10_breakAt_6 (by decide) ?_
    refine x_invS (rest := []) (d' := d - 1) (mc' := 0) (ms' := 0) [.int a1, .int (0 : Int32), .int (2 : Int32)] k_X10_within lk_X10_86 rfl rfl (Nat.le_of_ble_eq_true rfl) (by omega) (Nat.le_refl _) (Nat.le_refl _) d_X10_breakAt_7 ((sp_X10_within (d := d - 1) (by omega) hQ).mono (fun r w2 hr => ?_))
    obtain ⟨r2, rfl, rfl, hQ⟩ := hr
    refine x_if_ne (tgt := 16) d_X10_breakAt_10 (by decide) (fun c_10_3 => ?_) (fun c_10_3 => ?_)
    · have hQ := hQ.1 c_10_3
      refine x_iload_n 1 d_X10_breakAt_16 rfl rfl ?_
      refine x_aload_n 0 d_X10_breakAt_17 rfl rfl ?_
      refine x_getf 10 gf_X10_156 gM_0 rfl d_X10_breakAt_18 ?_
      refine x_icmp_lt (tgt := 27) d_X10_breakAt_21 (by decide) (fun c_21_4 => ?_) (fun c_21_4 => ?_)
      · have hQ := hQ.1 c_21_4
        refine x_iload_n 2 d_X10_breakAt_27 rfl rfl ?_
        refine x_if_ne (tgt := 40) d_X10_breakAt_28 (by decide) (fun c_28_5 => ?_) (fun c_28_5 => ?_)
        · have hQ := hQ.1 c_28_5
          refine x_iload_n 2 d_X10_breakAt_40 rfl rfl ?_
          refine x_iconst (v := (1 : Int32)) d_X10_breakAt_41 (by decide) ?_
          refine x_icmp_ne (tgt := 54) d_X10_breakAt_42 (by decide) (fun c_42_6 => ?_) (fun c_42_6 => ?_)
          · have hQ := hQ.1 c_42_6
            refine x_aload_n 0 d_X10_breakAt_54 rfl rfl ?_
            refine x_getf 9 gf_X10_31 gM_0 rfl d_X10_breakAt_55 ?_
            refine x_iload_n 1 d_X10_breakAt_58 rfl rfl ?_
            have hN := hQ.1
            have hQ := hQ.2
            refine x_iald gM_8 hN d_X10_breakAt_59 ?_
            exact x_iret (retI d_X10_breakAt_60 rfl) ⟨_, rfl, rfl, hQ⟩
          · have hQ := hQ.2 c_42_6
            refine x_aload_n 0 d_X10_breakAt_45 rfl rfl ?_
            refine x_getf 8 gf_X10_28 gM_0 rfl d_X10_breakAt_46 ?_
            refine x_iload_n 1 d_X10_breakAt_49 rfl rfl ?_
            have hN := hQ.1
            have hQ := hQ.2
            refine x_iald gM_7 hN d_X10_breakAt_50 ?_
            refine x_goto (tgt := 60) d_X10_breakAt_51 (by decide) ?_
            exact x_iret (retI d_X10_breakAt_60 rfl) ⟨_, rfl, rfl, hQ⟩
        · have hQ := hQ.2 c_28_5
          refine x_aload_n 0 d_X10_breakAt_31 rfl rfl ?_
          refine x_getf 7 gf_X10_25 gM_0 rfl d_X10_breakAt_32 ?_
          refine x_iload_n 1 d_X10_breakAt_35 rfl rfl ?_
          have hN := hQ.1
          have hQ := hQ.2
          refine x_iald gM_6 hN d_X10_breakAt_36 ?_
          refine x_goto (tgt := 60) d_X10_breakAt_37 (by decide) ?_
          exact x_iret (retI d_X10_breakAt_60 rfl) ⟨_, rfl, rfl, hQ⟩
      · have hQ := hQ.2 c_21_4
        refine x_ldc (v := (-2000000004 : Int32)) kc_X10_125 d_X10_breakAt_24 ?_
        exact x_iret (retI d_X10_breakAt_26 rfl) ⟨_, rfl, rfl, hQ⟩
    · have hQ := hQ.2 c_10_3
      refine x_ldc (v := (-2000000001 : Int32)) kc_X10_90 d_X10_breakAt_13 ?_
      exact x_iret (retI d_X10_breakAt_15 rfl) ⟨_, rfl, rfl, hQ⟩
def lp_X10_nextBreak_2 (s : RT) (a0 : Int32) (K : Int32 → Prop) : Nat → Int32 → Prop
  | 0, _ => False
  | n + 1, x_2 => (((s.2.2 10) ≤ x_2 → K (8000 : Int32)) ∧ (¬ (s.2.2 10) ≤ x_2 → vp_in x_2 64 ∧ (((s.1 6 x_2.toNatClampNeg) ≤ a0 → ∀ x3 : Int32, x3 = x_2 + (1 : Int32) → lp_X10_nextBreak_2 s a0 K n x3) ∧ (¬ (s.1 6 x_2.toNatClampNeg) ≤ a0 → vp_in x_2 64 ∧ K (s.1 6 x_2.toNatClampNeg)))))
set_option maxHeartbeats 4000000 in
theorem jt_X10_nextBreak_2 {G : GX} {l : Launch} {d : Nat} {w : HW} {a : Nat} {s : RT} {a0 : Int32} {K : Int32 → Prop} (hd : 0 ≤ d) : ∀ (n : Nat) (x_2 : Int32), lp_X10_nextBreak_2 s a0 K n x_2 → X G l m_X10_nextBreak d 0 0 0 0 2 [(0, .ref a), (1, .int a0), (2, .int x_2)] [] (put w a 22 (shM a s)) (fun r w2 => ∃ (r1 : Int32), r = some (.int r1) ∧ w2 = put w a 22 (shM a s) ∧ K r1) := by
  intro n
  induction n with
  | zero =>
    intro x_2 hQ
    exact hQ.elim
  | succ n ih =>
    intro x_2 hQ
    refine x_iload_n 2 d_X10_nextBreak_2 rfl rfl ?_
    refine x_aload_n 0 d_X10_nextBreak_3 rfl rfl ?_
    refine x_getf 10 gf_X10_156 gM_0 rfl d_X10_nextBreak_4 ?_
    refine x_icmp_ge (tgt := 33) d_X10_nextBreak_7 (by decide) (fun c_7_1 => ?_) (fun c_7_1 => ?_)
    · have hQ := hQ.1 c_7_1
      refine x_sipush (v := (8000 : Int32)) d_X10_nextBreak_33 (by decide) ?_
      exact x_iret (retI d_X10_nextBreak_36 rfl) ⟨_, rfl, rfl, hQ⟩
    · have hQ := hQ.2 c_7_1
      refine x_aload_n 0 d_X10_nextBreak_10 rfl rfl ?_
      refine x_getf 7 gf_X10_25 gM_0 rfl d_X10_nextBreak_11 ?_
      refine x_iload_n 2 d_X10_nextBreak_14 rfl rfl ?_
      have hN := hQ.1
      have hQ := hQ.2
      refine x_iald gM_6 hN d_X10_nextBreak_15 ?_
      refine x_iload_n 1 d_X10_nextBreak_16 rfl rfl ?_
      refine x_icmp_le (tgt := 27) d_X10_nextBreak_17 (by decide) (fun c_17_2 => ?_) (fun c_17_2 => ?_)
      · have hQ := hQ.1 c_17_2
        obtain ⟨x3, e_x3⟩ : ∃ z : Int32, z = x_2 + (1 : Int32) := ⟨_, rfl⟩
        have hQ := hQ x3 e_x3
        refine x_iinc (v := x3) (lv2 := [(2, .int x3), (0, .ref a), (1, .int a0)]) 2 d_X10_nextBreak_27 rfl (by rw [e_x3]; rfl) (by decide) rfl ?_
        refine x_goto (tgt := 2) d_X10_nextBreak_30 (by decide) ?_
        refine x_sub [1, 2, 0] (lv2 := [(0, .ref a), (1, .int a0), (2, .int x3)]) rfl ?_
        exact ih x3 hQ
      · have hQ := hQ.2 c_17_2
        refine x_aload_n 0 d_X10_nextBreak_20 rfl rfl ?_
        refine x_getf 7 gf_X10_25 gM_0 rfl d_X10_nextBreak_21 ?_
        refine x_iload_n 2 d_X10_nextBreak_24 rfl rfl ?_
        have hN := hQ.1
        have hQ := hQ.2
        refine x_iald gM_6 hN d_X10_nextBreak_25 ?_
        exact x_iret (retI d_X10_nextBreak_26 rfl) ⟨_, rfl, rfl, hQ⟩
def wp_X10_nextBreak (s : RT) (a0 : Int32) (K : Int32 → Prop) : Prop := ∃ m : Nat, lp_X10_nextBreak_2 s a0 K m (0 : Int32)
set_option maxHeartbeats 4000000 in
theorem sp_X10_nextBreak {G : GX} {l : Launch} {d : Nat} {w : HW} {a : Nat} {s : RT} {a0 : Int32} {K : Int32 → Prop} (hd : 0 ≤ d) (hQ : wp_X10_nextBreak s a0 K) : Sp G l m_X10_nextBreak d 0 0 [.ref a, .int a0] (put w a 22 (shM a s)) (fun r w2 => ∃ (r1 : Int32), r = some (.int r1) ∧ w2 = put w a 22 (shM a s) ∧ K r1) := by
  refine Sp.ofX k_X10_nextBreak.1.1 (Nat.le_of_ble_eq_true rfl) ?_
  refine X.lv (lv2 := [(0, .ref a), (1, .int a0)]) rfl ?_
  refine x_iconst (v := (0 : Int32)) d_X10_nextBreak_0 (by decide) ?_
  refine x_istore_n (lv2 := [(2, .int (0 : Int32)), (0, .ref a), (1, .int a0)]) d_X10_nextBreak_1 rfl (by decide) rfl ?_
  refine x_sub [1, 2, 0] (lv2 := [(0, .ref a), (1, .int a0), (2, .int (0 : Int32))]) rfl ?_
  obtain ⟨m, hQ⟩ := hQ
  exact jt_X10_nextBreak_2 hd m (0 : Int32) hQ
def jp_X10_historyValue_56 (s : RT) (a0 : Int32) (a1 : Int32) (K : Int64 → Prop) (x_3 : Int32) (x_4 : Int32) : Prop := ((¬ x_4 = x_3 → wp_X10_pointTime s a0 (x_4 - (1 : Int32)) (fun (r7 : Int32) => ∀ x8 : Int64, x8 = r7.toInt64 → wp_X10_pointValue s a0 (x_4 - (1 : Int32)) (fun (r9 : Int32) => ∀ x10 : Int64, x10 = r9.toInt64 → wp_X10_pointValue s a0 x_4 (fun (r11 : Int32) => wp_X10_pointTime s a0 x_4 (fun (r12 : Int32) => ¬ ((r12.toInt64) - x8) = 0 ∧ K (x10 + ((((r11.toInt64) - x10) * ((a1.toInt64) - x8)) / ((r12.toInt64) - x8)))))))) ∧ (x_4 = x_3 → wp_X10_pointValue s a0 (x_3 - (1 : Int32)) (fun (r13 : Int32) => K (r13.toInt64))))
set_option maxHeartbeats 4000000 in
theorem jt_X10_historyValue_56 {G : GX} {l : Launch} {d : Nat} {w : HW} {a : Nat} {s : RT} {a0 : Int32} {a1 : Int32} {K : Int64 → Prop} (hd : 1 ≤ d) (x_3 : Int32) (x_4 : Int32) (hQ : jp_X10_historyValue_56 s a0 a1 K x_3 x_4) : X G l m_X10_historyValue d 0 0 0 0 56 [(0, .ref a), (1, .int a0), (2, .int a1), (3, .int x_3), (4, .int x_4)] [] (put w a 22 (shM a s)) (fun r w2 => ∃ (r1 : Int64), r = some (.long r1) ∧ w2 = put w a 22 (shM a s) ∧ K r1) := by
  refine x_iload 4 d_X10_historyValue_56 rfl ?_
  refine x_iload_n 3 d_X10_historyValue_58 rfl rfl ?_
  refine x_icmp_ne (tgt := 72) d_X10_historyValue_59 (by decide) (fun c_59_6 => ?_) (fun c_59_6 => ?_)
  · have hQ := hQ.1 c_59_6
    refine x_aload_n 0 d_X10_historyValue_72 rfl rfl ?_
    refine x_iload_n 1 d_X10_historyValue_73 rfl rfl ?_
    refine x_iload 4 d_X10_historyValue_74 rfl ?_
    refine x_iconst (v := (1 : Int32)) d_X10_historyValue_76 (by decide) ?_
    refine x_isub d_X10_historyValue_77 ?_
    refine x_invV (rest := []) (d' := d - 1) (mc' := 0) (ms' := 0) [.int a0, .int (x_4 - (1 : Int32))] k_X10_pointTime lk_X10_147 gM_0 rfl rfl rfl (Nat.le_of_ble_eq_true rfl) (by omega) (Nat.le_refl _) (Nat.le_refl _) d_X10_historyValue_78 ((sp_X10_pointTime (d := d - 1) (by omega) hQ).mono (fun r w2 hr => ?_))
    obtain ⟨r7, rfl, rfl, hQ⟩ := hr
    refine x_i2l d_X10_historyValue_81 rfl ?_
    refine x_topl (fun x8 e_x8 => ?_)
    have hQ := hQ x8 e_x8
    refine x_lstore (lv2 := [(5, .long x8), (0, .ref a), (1, .int a0), (2, .int a1), (3, .int x_3), (4, .int x_4)]) d_X10_historyValue_82 (by decide) rfl ?_
    refine x_aload_n 1 d_X10_historyValue_84 rfl rfl ?_
    refine x_iload_n 2 d_X10_historyValue_85 rfl rfl ?_
    refine x_iload 5 d_X10_historyValue_86 rfl ?_
    refine x_iconst (v := (1 : Int32)) d_X10_historyValue_88 (by decide) ?_
    refine x_isub d_X10_historyValue_89 ?_
    refine x_invV (rest := []) (d' := d - 1) (mc' := 0) (ms' := 0) [.int a0, .int (x_4 - (1 : Int32))] k_X10_pointValue lk_X10_150 gM_0 rfl rfl rfl (Nat.le_of_ble_eq_true rfl) (by omega) (Nat.le_refl _) (Nat.le_refl _) d_X10_historyValue_90 ((sp_X10_pointValue (d := d - 1) (by omega) hQ).mono (fun r w2 hr => ?_))
    obtain ⟨r9, rfl, rfl, hQ⟩ := hr
    refine x_i2l d_X10_historyValue_93 rfl ?_
    refine x_topl (fun x10 e_x10 => ?_)
    have hQ := hQ x10 e_x10
    refine x_lstore (lv2 := [(7, .long x10), (5, .long x8), (0, .ref a), (1, .int a0), (2, .int a1), (3, .int x_3), (4, .int x_4)]) d_X10_historyValue_94 (by decide) rfl ?_
    refine x_lload 0 d_X10_historyValue_96 rfl ?_
    refine x_aload_n 2 d_X10_historyValue_98 rfl rfl ?_
    refine x_iload_n 3 d_X10_historyValue_99 rfl rfl ?_
    refine x_iload 6 d_X10_historyValue_100 rfl ?_
    refine x_invV (rest := [.long x10]) (d' := d - 1) (mc' := 0) (ms' := 0) [.int a0, .int x_4] k_X10_pointValue lk_X10_150 gM_0 rfl rfl rfl (Nat.le_of_ble_eq_true rfl) (by omega) (Nat.le_refl _) (Nat.le_refl _) d_X10_historyValue_102 ((sp_X10_pointValue (d := d - 1) (by omega) hQ).mono (fun r w2 hr => ?_))
    obtain ⟨r11, rfl, rfl, hQ⟩ := hr
    refine x_i2l d_X10_historyValue_105 rfl ?_
    refine x_lload 0 d_X10_historyValue_106 rfl ?_
    refine x_lsub d_X10_historyValue_108 ?_
    refine x_iload_n 4 d_X10_historyValue_109 rfl rfl ?_
    refine x_i2l d_X10_historyValue_110 rfl ?_
    refine x_lload 1 d_X10_historyValue_111 rfl ?_
    refine x_lsub d_X10_historyValue_113 ?_
    refine x_lmul d_X10_historyValue_114 ?_
    refine x_aload_n 2 d_X10_historyValue_115 rfl rfl ?_
    refine x_iload_n 3 d_X10_historyValue_116 rfl rfl ?_
    refine x_iload 6 d_X10_historyValue_117 rfl ?_
    refine x_invV (rest := [.long (((r11.toInt64) - x10) * ((a1.toInt64) - x8)), .long x10]) (d' := d - 1) (mc' := 0) (ms' := 0) [.int a0, .int x_4] k_X10_pointTime lk_X10_147 gM_0 rfl rfl rfl (Nat.le_of_ble_eq_true rfl) (by omega) (Nat.le_refl _) (Nat.le_refl _) d_X10_historyValue_119 ((sp_X10_pointTime (d := d - 1) (by omega) hQ).mono (fun r w2 hr => ?_))
    obtain ⟨r12, rfl, rfl, hQ⟩ := hr
    refine x_i2l d_X10_historyValue_122 rfl ?_
    refine x_lload 1 d_X10_historyValue_123 rfl ?_
    refine x_lsub d_X10_historyValue_125 ?_
    have hN := hQ.1
    have hQ := hQ.2
    refine x_ldiv d_X10_historyValue_126 hN ?_
    refine x_ladd d_X10_historyValue_127 ?_
    exact x_lret (retL d_X10_historyValue_128 rfl) ⟨_, rfl, rfl, hQ⟩
  · have hQ := hQ.2 c_59_6
    refine x_aload_n 0 d_X10_historyValue_62 rfl rfl ?_
    refine x_iload_n 1 d_X10_historyValue_63 rfl rfl ?_
    refine x_iload_n 3 d_X10_historyValue_64 rfl rfl ?_
    refine x_iconst (v := (1 : Int32)) d_X10_historyValue_65 (by decide) ?_
    refine x_isub d_X10_historyValue_66 ?_
    refine x_invV (rest := []) (d' := d - 1) (mc' := 0) (ms' := 0) [.int a0, .int (x_3 - (1 : Int32))] k_X10_pointValue lk_X10_150 gM_0 rfl rfl rfl (Nat.le_of_ble_eq_true rfl) (by omega) (Nat.le_refl _) (Nat.le_refl _) d_X10_historyValue_67 ((sp_X10_pointValue (d := d - 1) (by omega) hQ).mono (fun r w2 hr => ?_))
    obtain ⟨r13, rfl, rfl, hQ⟩ := hr
    refine x_i2l d_X10_historyValue_70 rfl ?_
    exact x_lret (retL d_X10_historyValue_71 rfl) ⟨_, rfl, rfl, hQ⟩
def lp_X10_historyValue_33 (s : RT) (a0 : Int32) (a1 : Int32) (K : Int64 → Prop) : Nat → Int32 → Int32 → Prop
  | 0, _, _ => False
  | n + 1, x_3, x_4 => ((x_3 ≤ x_4 → jp_X10_historyValue_56 s a0 a1 K x_3 x_4) ∧ (¬ x_3 ≤ x_4 → wp_X10_pointTime s a0 x_4 (fun (r14 : Int32) => ((a1 < r14 → jp_X10_historyValue_56 s a0 a1 K x_3 x_4) ∧ (¬ a1 < r14 → ∀ x16 : Int32, x16 = x_4 + (1 : Int32) → lp_X10_historyValue_33 s a0 a1 K n x_3 x16)))))
set_option maxHeartbeats 4000000 in
theorem jt_X10_historyValue_33 {G : GX} {l : Launch} {d : Nat} {w : HW} {a : Nat} {s : RT} {a0 : Int32} {a1 : Int32} {K : Int64 → Prop} (hd : 1 ≤ d) : ∀ (n : Nat) (x_3 : Int32) (x_4 : Int32), lp_X10_historyValue_33 s a0 a1 K n x_3 x_4 → X G l m_X10_historyValue d 0 0 0 0 33 [(0, .ref a), (1, .int a0), (2, .int a1), (3, .int x_3), (4, .int x_4)] [] (put w a 22 (shM a s)) (fun r w2 => ∃ (r1 : Int64), r = some (.long r1) ∧ w2 = put w a 22 (shM a s) ∧ K r1) := by
  intro n
  induction n with
  | zero =>
    intro x_3 x_4 hQ
    exact hQ.elim
  | succ n ih =>
    intro x_3 x_4 hQ
    refine x_iload 4 d_X10_historyValue_33 rfl ?_
    refine x_iload_n 3 d_X10_historyValue_35 rfl rfl ?_
    refine x_icmp_ge (tgt := 56) d_X10_historyValue_36 (by decide) (fun c_36_5 => ?_) (fun c_36_5 => ?_)
    · have hQ := hQ.1 c_36_5
      refine x_sub [0, 1, 2, 3, 4] (lv2 := [(0, .ref a), (1, .int a0), (2, .int a1), (3, .int x_3), (4, .int x_4)]) rfl ?_
      exact jt_X10_historyValue_56 hd x_3 x_4 hQ
    · have hQ := hQ.2 c_36_5
      refine x_aload_n 0 d_X10_historyValue_39 rfl rfl ?_
      refine x_iload_n 1 d_X10_historyValue_40 rfl rfl ?_
      refine x_iload 4 d_X10_historyValue_41 rfl ?_
      refine x_invV (rest := []) (d' := d - 1) (mc' := 0) (ms' := 0) [.int a0, .int x_4] k_X10_pointTime lk_X10_147 gM_0 rfl rfl rfl (Nat.le_of_ble_eq_true rfl) (by omega) (Nat.le_refl _) (Nat.le_refl _) d_X10_historyValue_43 ((sp_X10_pointTime (d := d - 1) (by omega) hQ).mono (fun r w2 hr => ?_))
      obtain ⟨r14, rfl, rfl, hQ⟩ := hr
      refine x_iload_n 2 d_X10_historyValue_46 rfl rfl ?_
      refine x_icmp_gt (tgt := 56) d_X10_historyValue_47 (by decide) (fun c_47_15 => ?_) (fun c_47_15 => ?_)
      · have hQ := hQ.1 c_47_15
        refine x_sub [0, 1, 2, 3, 4] (lv2 := [(0, .ref a), (1, .int a0), (2, .int a1), (3, .int x_3), (4, .int x_4)]) rfl ?_
        exact jt_X10_historyValue_56 hd x_3 x_4 hQ
      · have hQ := hQ.2 c_47_15
        obtain ⟨x16, e_x16⟩ : ∃ z : Int32, z = x_4 + (1 : Int32) := ⟨_, rfl⟩
        have hQ := hQ x16 e_x16
        refine x_iinc (v := x16) (lv2 := [(4, .int x16), (0, .ref a), (1, .int a0), (2, .int a1), (3, .int x_3)]) 4 d_X10_historyValue_50 rfl (by rw [e_x16]; rfl) (by decide) rfl ?_
        refine x_goto (tgt := 33) d_X10_historyValue_53 (by decide) ?_
        refine x_sub [1, 2, 3, 4, 0] (lv2 := [(0, .ref a), (1, .int a0), (2, .int a1), (3, .int x_3), (4, .int x16)]) rfl ?_
        exact ih x_3 x16 hQ
def wp_X10_historyValue (s : RT) (a0 : Int32) (a1 : Int32) (K : Int64 → Prop) : Prop := wp_X10_points s a0 (fun (r1 : Int32) => ((¬ r1 = (0 : Int32) → wp_X10_pointTime s a0 (0 : Int32) (fun (r3 : Int32) => ((r3 < a1 → ∃ m : Nat, lp_X10_historyValue_33 s a0 a1 K m r1 (0 : Int32)) ∧ (¬ r3 < a1 → wp_X10_pointValue s a0 (0 : Int32) (fun (r17 : Int32) => K (r17.toInt64)))))) ∧ (r1 = (0 : Int32) → K (0 : Int64))))
set_option maxHeartbeats 4000000 in
theorem sp_X10_historyValue {G : GX} {l : Launch} {d : Nat} {w : HW} {a : Nat} {s : RT} {a0 : Int32} {a1 : Int32} {K : Int64 → Prop} (hd : 1 ≤ d) (hQ : wp_X10_historyValue s a0 a1 K) : Sp G l m_X10_historyValue d 0 0 [.ref a, .int a0, .int a1] (put w a 22 (shM a s)) (fun r w2 => ∃ (r1 : Int64), r = some (.long r1) ∧ w2 = put w a 22 (shM a s) ∧ K r1) := by
  refine Sp.ofX k_X10_historyValue.1.1 (Nat.le_of_ble_eq_true rfl) ?_
  refine X.lv (lv2 := [(0, .ref a), (1, .int a0), (2, .int a1)]) rfl ?_
  refine x_aload_n 0 d_X10_historyValue_0 rfl rfl ?_
  refine x_iload_n 1 d_X10_historyValue_1 rfl rfl ?_
  refine x_invV (rest := []) (d' := d - 1) (mc' := 0) (ms' := 0) [.int a0] k_X10_points lk_X10_144 gM_0 rfl rfl rfl (Nat.le_of_ble_eq_true rfl) (by omega) (Nat.le_refl _) (Nat.le_refl _) d_X10_historyValue_2 ((sp_X10_points (d := d - 1) (by omega) hQ).mono (fun r w2 hr => ?_))
  obtain ⟨r1, rfl, rfl, hQ⟩ := hr
  refine x_istore_n (lv2 := [(3, .int r1), (0, .ref a), (1, .int a0), (2, .int a1)]) d_X10_historyValue_5 rfl (by decide) rfl ?_
  refine x_iload_n 0 d_X10_historyValue_6 rfl rfl ?_
  refine x_if_ne (tgt := 12) d_X10_historyValue_7 (by decide) (fun c_7_2 => ?_) (fun c_7_2 => ?_)
  · have hQ := hQ.1 c_7_2
    refine x_iload_n 3 d_X10_historyValue_12 rfl rfl ?_
    refine x_aload_n 1 d_X10_historyValue_13 rfl rfl ?_
    refine x_iload_n 2 d_X10_historyValue_14 rfl rfl ?_
    refine x_iconst (v := (0 : Int32)) d_X10_historyValue_15 (by decide) ?_
    refine x_invV (rest := [.int a1]) (d' := d - 1) (mc' := 0) (ms' := 0) [.int a0, .int (0 : Int32)] k_X10_pointTime lk_X10_147 gM_0 rfl rfl rfl (Nat.le_of_ble_eq_true rfl) (by omega) (Nat.le_refl _) (Nat.le_refl _) d_X10_historyValue_16 ((sp_X10_pointTime (d := d - 1) (by omega) hQ).mono (fun r w2 hr => ?_))
    obtain ⟨r3, rfl, rfl, hQ⟩ := hr
    refine x_icmp_gt (tgt := 30) d_X10_historyValue_19 (by decide) (fun c_19_4 => ?_) (fun c_19_4 => ?_)
    · have hQ := hQ.1 c_19_4
      refine x_iconst (v := (0 : Int32)) d_X10_historyValue_30 (by decide) ?_
      refine x_istore (lv2 := [(4, .int (0 : Int32)), (3, .int r1), (0, .ref a), (1, .int a0), (2, .int a1)]) d_X10_historyValue_31 (by decide) rfl ?_
      refine x_sub [2, 3, 4, 1, 0] (lv2 := [(0, .ref a), (1, .int a0), (2, .int a1), (3, .int r1), (4, .int (0 : Int32))]) rfl ?_
      obtain ⟨m, hQ⟩ := hQ
      exact jt_X10_historyValue_33 hd m r1 (0 : Int32) hQ
    · have hQ := hQ.2 c_19_4
      refine x_aload_n 1 d_X10_historyValue_22 rfl rfl ?_
      refine x_iload_n 2 d_X10_historyValue_23 rfl rfl ?_
      refine x_iconst (v := (0 : Int32)) d_X10_historyValue_24 (by decide) ?_
      refine x_invV (rest := []) (d' := d - 1) (mc' := 0) (ms' := 0) [.int a0, .int (0 : Int32)] k_X10_pointValue lk_X10_150 gM_0 rfl rfl rfl (Nat.le_of_ble_eq_true rfl) (by omega) (Nat.le_refl _) (Nat.le_refl _) d_X10_historyValue_25 ((sp_X10_pointValue (d := d - 1) (by omega) hQ).mono (fun r w2 hr => ?_))
      obtain ⟨r17, rfl, rfl, hQ⟩ := hr
      refine x_i2l d_X10_historyValue_28 rfl ?_
      exact x_lret (retL d_X10_historyValue_29 rfl) ⟨_, rfl, rfl, hQ⟩
  · have hQ := hQ.2 c_7_2
    refine x_lconst (v := (0 : Int64)) d_X10_historyValue_10 (by decide) ?_
    exact x_lret (retL d_X10_historyValue_11 rfl) ⟨_, rfl, rfl, hQ⟩
def lp_X10_historySlope_2 (s : RT) (a0 : Int32) (a1 : Int32) (K : Int64 → Prop) : Nat → Int32 → Prop
  | 0, _ => False
  | n + 1, x_3 => wp_X10_points s a0 (fun (r1 : Int32) => ((r1 ≤ x_3 → K (0 : Int64)) ∧ (¬ r1 ≤ x_3 → wp_X10_pointTime s a0 (x_3 - (1 : Int32)) (fun (r3 : Int32) => ((a1 < r3 → ∀ x5 : Int32, x5 = x_3 + (1 : Int32) → lp_X10_historySlope_2 s a0 a1 K n x5) ∧ (¬ a1 < r3 → wp_X10_pointTime s a0 x_3 (fun (r6 : Int32) => ((r6 ≤ a1 → ∀ x8 : Int32, x8 = x_3 + (1 : Int32) → lp_X10_historySlope_2 s a0 a1 K n x8) ∧ (¬ r6 ≤ a1 → wp_X10_pointValue s a0 x_3 (fun (r9 : Int32) => wp_X10_pointValue s a0 (x_3 - (1 : Int32)) (fun (r10 : Int32) => wp_X10_pointTime s a0 x_3 (fun (r11 : Int32) => wp_X10_pointTime s a0 (x_3 - (1 : Int32)) (fun (r12 : Int32) => ¬ ((r11 - r12).toInt64) = 0 ∧ K ((((r9 - r10).toInt64) * (1000 : Int64)) / ((r11 - r12).toInt64)))))))))))))))
set_option maxHeartbeats 4000000 in
theorem jt_X10_historySlope_2 {G : GX} {l : Launch} {d : Nat} {w : HW} {a : Nat} {s : RT} {a0 : Int32} {a1 : Int32} {K : Int64 → Prop} (hd : 1 ≤ d) : ∀ (n : Nat) (x_3 : Int32), lp_X10_historySlope_2 s a0 a1 K n x_3 → X G l m_X10_historySlope d 0 0 0 0 2 [(0, .ref a), (1, .int a0), (2, .int a1), (3, .int x_3)] [] (put w a 22 (shM a s)) (fun r w2 => ∃ (r1 : Int64), r = some (.long r1) ∧ w2 = put w a 22 (shM a s) ∧ K r1) := by
  intro n
  induction n with
  | zero =>
    intro x_3 hQ
    exact hQ.elim
  | succ n ih =>
    intro x_3 hQ
    refine x_iload_n 3 d_X10_historySlope_2 rfl rfl ?_
    refine x_aload_n 0 d_X10_historySlope_3 rfl rfl ?_
    refine x_iload_n 1 d_X10_historySlope_4 rfl rfl ?_
    refine x_invV (rest := [.int x_3]) (d' := d - 1) (mc' := 0) (ms' := 0) [.int a0] k_X10_points lk_X10_144 gM_0 rfl rfl rfl (Nat.le_of_ble_eq_true rfl) (by omega) (Nat.le_refl _) (Nat.le_refl _) d_X10_historySlope_5 ((sp_X10_points (d := d - 1) (by omega) hQ).mono (fun r w2 hr => ?_))
    obtain ⟨r1, rfl, rfl, hQ⟩ := hr
    refine x_icmp_ge (tgt := 77) d_X10_historySlope_8 (by decide) (fun c_8_2 => ?_) (fun c_8_2 => ?_)
    · have hQ := hQ.1 c_8_2
      refine x_lconst (v := (0 : Int64)) d_X10_historySlope_77 (by decide) ?_
      exact x_lret (retL d_X10_historySlope_78 rfl) ⟨_, rfl, rfl, hQ⟩
    · have hQ := hQ.2 c_8_2
      refine x_aload_n 0 d_X10_historySlope_11 rfl rfl ?_
      refine x_iload_n 1 d_X10_historySlope_12 rfl rfl ?_
      refine x_iload_n 3 d_X10_historySlope_13 rfl rfl ?_
      refine x_iconst (v := (1 : Int32)) d_X10_historySlope_14 (by decide) ?_
      refine x_isub d_X10_historySlope_15 ?_
      refine x_invV (rest := []) (d' := d - 1) (mc' := 0) (ms' := 0) [.int a0, .int (x_3 - (1 : Int32))] k_X10_pointTime lk_X10_147 gM_0 rfl rfl rfl (Nat.le_of_ble_eq_true rfl) (by omega) (Nat.le_refl _) (Nat.le_refl _) d_X10_historySlope_16 ((sp_X10_pointTime (d := d - 1) (by omega) hQ).mono (fun r w2 hr => ?_))
      obtain ⟨r3, rfl, rfl, hQ⟩ := hr
      refine x_iload_n 2 d_X10_historySlope_19 rfl rfl ?_
      refine x_icmp_gt (tgt := 71) d_X10_historySlope_20 (by decide) (fun c_20_4 => ?_) (fun c_20_4 => ?_)
      · have hQ := hQ.1 c_20_4
        obtain ⟨x5, e_x5⟩ : ∃ z : Int32, z = x_3 + (1 : Int32) := ⟨_, rfl⟩
        have hQ := hQ x5 e_x5
        refine x_iinc (v := x5) (lv2 := [(3, .int x5), (0, .ref a), (1, .int a0), (2, .int a1)]) 3 d_X10_historySlope_71 rfl (by rw [e_x5]; rfl) (by decide) rfl ?_
        refine x_goto (tgt := 2) d_X10_historySlope_74 (by decide) ?_
        refine x_sub [1, 2, 3, 0] (lv2 := [(0, .ref a), (1, .int a0), (2, .int a1), (3, .int x5)]) rfl ?_
        exact ih x5 hQ
      · have hQ := hQ.2 c_20_4
        refine x_iload_n 2 d_X10_historySlope_23 rfl rfl ?_
        refine x_aload_n 0 d_X10_historySlope_24 rfl rfl ?_
        refine x_iload_n 1 d_X10_historySlope_25 rfl rfl ?_
        refine x_iload_n 3 d_X10_historySlope_26 rfl rfl ?_
        refine x_invV (rest := [.int a1]) (d' := d - 1) (mc' := 0) (ms' := 0) [.int a0, .int x_3] k_X10_pointTime lk_X10_147 gM_0 rfl rfl rfl (Nat.le_of_ble_eq_true rfl) (by omega) (Nat.le_refl _) (Nat.le_refl _) d_X10_historySlope_27 ((sp_X10_pointTime (d := d - 1) (by omega) hQ).mono (fun r w2 hr => ?_))
        obtain ⟨r6, rfl, rfl, hQ⟩ := hr
        refine x_icmp_ge (tgt := 71) d_X10_historySlope_30 (by decide) (fun c_30_7 => ?_) (fun c_30_7 => ?_)
        · have hQ := hQ.1 c_30_7
          obtain ⟨x8, e_x8⟩ : ∃ z : Int32, z = x_3 + (1 : Int32) := ⟨_, rfl⟩
          have hQ := hQ x8 e_x8
          refine x_iinc (v := x8) (lv2 := [(3, .int x8), (0, .ref a), (1, .int a0), (2, .int a1)]) 3 d_X10_historySlope_71 rfl (by rw [e_x8]; rfl) (by decide) rfl ?_
          refine x_goto (tgt := 2) d_X10_historySlope_74 (by decide) ?_
          refine x_sub [1, 2, 3, 0] (lv2 := [(0, .ref a), (1, .int a0), (2, .int a1), (3, .int x8)]) rfl ?_
          exact ih x8 hQ
        · have hQ := hQ.2 c_30_7
          refine x_aload_n 0 d_X10_historySlope_33 rfl rfl ?_
          refine x_iload_n 1 d_X10_historySlope_34 rfl rfl ?_
          refine x_iload_n 3 d_X10_historySlope_35 rfl rfl ?_
          refine x_invV (rest := []) (d' := d - 1) (mc' := 0) (ms' := 0) [.int a0, .int x_3] k_X10_pointValue lk_X10_150 gM_0 rfl rfl rfl (Nat.le_of_ble_eq_true rfl) (by omega) (Nat.le_refl _) (Nat.le_refl _) d_X10_historySlope_36 ((sp_X10_pointValue (d := d - 1) (by omega) hQ).mono (fun r w2 hr => ?_))
          obtain ⟨r9, rfl, rfl, hQ⟩ := hr
          refine x_aload_n 0 d_X10_historySlope_39 rfl rfl ?_
          refine x_iload_n 1 d_X10_historySlope_40 rfl rfl ?_
          refine x_iload_n 3 d_X10_historySlope_41 rfl rfl ?_
          refine x_iconst (v := (1 : Int32)) d_X10_historySlope_42 (by decide) ?_
          refine x_isub d_X10_historySlope_43 ?_
          refine x_invV (rest := [.int r9]) (d' := d - 1) (mc' := 0) (ms' := 0) [.int a0, .int (x_3 - (1 : Int32))] k_X10_pointValue lk_X10_150 gM_0 rfl rfl rfl (Nat.le_of_ble_eq_true rfl) (by omega) (Nat.le_refl _) (Nat.le_refl _) d_X10_historySlope_44 ((sp_X10_pointValue (d := d - 1) (by omega) hQ).mono (fun r w2 hr => ?_))
          obtain ⟨r10, rfl, rfl, hQ⟩ := hr
          refine x_isub d_X10_historySlope_47 ?_
          refine x_i2l d_X10_historySlope_48 rfl ?_
          refine x_ldc2 (v := (1000 : Int64)) kc_X10_176 d_X10_historySlope_49 ?_
          refine x_lmul d_X10_historySlope_52 ?_
          refine x_aload_n 0 d_X10_historySlope_53 rfl rfl ?_
          refine x_iload_n 1 d_X10_historySlope_54 rfl rfl ?_
          refine x_iload_n 3 d_X10_historySlope_55 rfl rfl ?_
          refine x_invV (rest := [.long (((r9 - r10).toInt64) * (1000 : Int64))]) (d' := d - 1) (mc' := 0) (ms' := 0) [.int a0, .int x_3] k_X10_pointTime lk_X10_147 gM_0 rfl rfl rfl (Nat.le_of_ble_eq_true rfl) (by omega) (Nat.le_refl _) (Nat.le_refl _) d_X10_historySlope_56 ((sp_X10_pointTime (d := d - 1) (by omega) hQ).mono (fun r w2 hr => ?_))
          obtain ⟨r11, rfl, rfl, hQ⟩ := hr
          refine x_aload_n 0 d_X10_historySlope_59 rfl rfl ?_
          refine x_iload_n 1 d_X10_historySlope_60 rfl rfl ?_
          refine x_iload_n 3 d_X10_historySlope_61 rfl rfl ?_
          refine x_iconst (v := (1 : Int32)) d_X10_historySlope_62 (by decide) ?_
          refine x_isub d_X10_historySlope_63 ?_
          refine x_invV (rest := [.int r11, .long (((r9 - r10).toInt64) * (1000 : Int64))]) (d' := d - 1) (mc' := 0) (ms' := 0) [.int a0, .int (x_3 - (1 : Int32))] k_X10_pointTime lk_X10_147 gM_0 rfl rfl rfl (Nat.le_of_ble_eq_true rfl) (by omega) (Nat.le_refl _) (Nat.le_refl _) d_X10_historySlope_64 ((sp_X10_pointTime (d := d - 1) (by omega) hQ).mono (fun r w2 hr => ?_))
          obtain ⟨r12, rfl, rfl, hQ⟩ := hr
          refine x_isub d_X10_historySlope_67 ?_
          refine x_i2l d_X10_historySlope_68 rfl ?_
          have hN := hQ.1
          have hQ := hQ.2
          refine x_ldiv d_X10_historySlope_69 hN ?_
          exact x_lret (retL d_X10_historySlope_70 rfl) ⟨_, rfl, rfl, hQ⟩
def wp_X10_historySlope (s : RT) (a0 : Int32) (a1 : Int32) (K : Int64 → Prop) : Prop := ∃ m : Nat, lp_X10_historySlope_2 s a0 a1 K m (1 : Int32)
set_option maxHeartbeats 4000000 in
theorem sp_X10_historySlope {G : GX} {l : Launch} {d : Nat} {w : HW} {a : Nat} {s : RT} {a0 : Int32} {a1 : Int32} {K : Int64 → Prop} (hd : 1 ≤ d) (hQ : wp_X10_historySlope s a0 a1 K) : Sp G l m_X10_historySlope d 0 0 [.ref a, .int a0, .int a1] (put w a 22 (shM a s)) (fun r w2 => ∃ (r1 : Int64), r = some (.long r1) ∧ w2 = put w a 22 (shM a s) ∧ K r1) := by
  refine Sp.ofX k_X10_historySlope.1.1 (Nat.le_of_ble_eq_true rfl) ?_
  refine X.lv (lv2 := [(0, .ref a), (1, .int a0), (2, .int a1)]) rfl ?_
  refine x_iconst (v := (1 : Int32)) d_X10_historySlope_0 (by decide) ?_
  refine x_istore_n (lv2 := [(3, .int (1 : Int32)), (0, .ref a), (1, .int a0), (2, .int a1)]) d_X10_historySlope_1 rfl (by decide) rfl ?_
  refine x_sub [1, 2, 3, 0] (lv2 := [(0, .ref a), (1, .int a0), (2, .int a1), (3, .int (1 : Int32))]) rfl ?_
  obtain ⟨m, hQ⟩ := hQ
  exact jt_X10_historySlope_2 hd m (1 : Int32) hQ
def lp_X10_stepOf_9 (s : RT) (a0 : Int32) (K : Int32 → Prop) : Nat → Int32 → Int32 → Prop
  | 0, _, _ => False
  | n + 1, x_2, x_3 => ((x_3 ≤ x_2 → K x_2) ∧ (¬ x_3 ≤ x_2 → ∀ x3 : Int32, x3 = ((x_2 + x_3) + (1 : Int32)) / (2 : Int32) → vp_in x3 1100 ∧ ((a0 ≤ (s.1 9 x3.toNatClampNeg) → ∀ x5 : Int32, x5 = x3 - (1 : Int32) → lp_X10_stepOf_9 s a0 K n x_2 x5) ∧ (¬ a0 ≤ (s.1 9 x3.toNatClampNeg) → lp_X10_stepOf_9 s a0 K n x3 x_3))))
set_option maxHeartbeats 4000000 in
theorem jt_X10_stepOf_9 {G : GX} {l : Launch} {d : Nat} {w : HW} {a : Nat} {s : RT} {a0 : Int32} {K : Int32 → Prop} (hd : 0 ≤ d) : ∀ (n : Nat) (x_2 : Int32) (x_3 : Int32), lp_X10_stepOf_9 s a0 K n x_2 x_3 → X G l m_X10_stepOf d 0 0 0 0 9 [(0, .ref a), (1, .int a0), (2, .int x_2), (3, .int x_3)] [] (put w a 22 (shM a s)) (fun r w2 => ∃ (r1 : Int32), r = some (.int r1) ∧ w2 = put w a 22 (shM a s) ∧ K r1) := by
  intro n
  induction n with
  | zero =>
    intro x_2 x_3 hQ
    exact hQ.elim
  | succ n ih =>
    intro x_2 x_3 hQ
    refine x_iload_n 2 d_X10_stepOf_9 rfl rfl ?_
    refine x_iload_n 3 d_X10_stepOf_10 rfl rfl ?_
    refine x_icmp_ge (tgt := 48) d_X10_stepOf_11 (by decide) (fun c_11_2 => ?_) (fun c_11_2 => ?_)
    · have hQ := hQ.1 c_11_2
      refine x_iload_n 2 d_X10_stepOf_48 rfl rfl ?_
      exact x_iret (retI d_X10_stepOf_49 rfl) ⟨_, rfl, rfl, hQ⟩
    · have hQ := hQ.2 c_11_2
      refine x_iload_n 2 d_X10_stepOf_14 rfl rfl ?_
      refine x_iload_n 3 d_X10_stepOf_15 rfl rfl ?_
      refine x_iadd d_X10_stepOf_16 ?_
      refine x_iconst (v := (1 : Int32)) d_X10_stepOf_17 (by decide) ?_
      refine x_iadd d_X10_stepOf_18 ?_
      refine x_iconst (v := (2 : Int32)) d_X10_stepOf_19 (by decide) ?_
      refine x_idiv d_X10_stepOf_20 (by decide) ?_
      refine x_topi (fun x3 e_x3 => ?_)
      have hQ := hQ x3 e_x3
      refine x_istore (lv2 := [(4, .int x3), (0, .ref a), (1, .int a0), (2, .int x_2), (3, .int x_3)]) d_X10_stepOf_21 (by decide) rfl ?_
      refine x_aload_n 1 d_X10_stepOf_23 rfl rfl ?_
      refine x_getf 11 gf_X10_34 gM_0 rfl d_X10_stepOf_24 ?_
      refine x_iload 0 d_X10_stepOf_27 rfl ?_
      have hN := hQ.1
      have hQ := hQ.2
      refine x_iald gM_9 hN d_X10_stepOf_29 ?_
      refine x_iload_n 2 d_X10_stepOf_30 rfl rfl ?_
      refine x_icmp_ge (tgt := 40) d_X10_stepOf_31 (by decide) (fun c_31_4 => ?_) (fun c_31_4 => ?_)
      · have hQ := hQ.1 c_31_4
        refine x_iload 0 d_X10_stepOf_40 rfl ?_
        refine x_iconst (v := (1 : Int32)) d_X10_stepOf_42 (by decide) ?_
        refine x_isub d_X10_stepOf_43 ?_
        refine x_topi (fun x5 e_x5 => ?_)
        have hQ := hQ x5 e_x5
        refine x_istore_n (lv2 := [(3, .int x5), (4, .int x3), (0, .ref a), (1, .int a0), (2, .int x_2)]) d_X10_stepOf_44 rfl (by decide) rfl ?_
        refine x_goto (tgt := 9) d_X10_stepOf_45 (by decide) ?_
        refine x_sub [2, 3, 4, 0] (lv2 := [(0, .ref a), (1, .int a0), (2, .int x_2), (3, .int x5)]) rfl ?_
        exact ih x_2 x5 hQ
      · have hQ := hQ.2 c_31_4
        refine x_iload 0 d_X10_stepOf_34 rfl ?_
        refine x_istore_n (lv2 := [(2, .int x3), (4, .int x3), (0, .ref a), (1, .int a0), (3, .int x_3)]) d_X10_stepOf_36 rfl (by decide) rfl ?_
        refine x_goto (tgt := 45) d_X10_stepOf_37 (by decide) ?_
        refine x_goto (tgt := 9) d_X10_stepOf_45 (by decide) ?_
        refine x_sub [2, 3, 0, 4] (lv2 := [(0, .ref a), (1, .int a0), (2, .int x3), (3, .int x_3)]) rfl ?_
        exact ih x3 x_3 hQ
def wp_X10_stepOf (s : RT) (a0 : Int32) (K : Int32 → Prop) : Prop := ∀ x1 : Int32, x1 = (s.2.2 17) - (1 : Int32) → ∃ m : Nat, lp_X10_stepOf_9 s a0 K m (0 : Int32) x1
set_option maxHeartbeats 4000000 in
theorem sp_X10_stepOf {G : GX} {l : Launch} {d : Nat} {w : HW} {a : Nat} {s : RT} {a0 : Int32} {K : Int32 → Prop} (hd : 0 ≤ d) (hQ : wp_X10_stepOf s a0 K) : Sp G l m_X10_stepOf d 0 0 [.ref a, .int a0] (put w a 22 (shM a s)) (fun r w2 => ∃ (r1 : Int32), r = some (.int r1) ∧ w2 = put w a 22 (shM a s) ∧ K r1) := by
  refine Sp.ofX k_X10_stepOf.1.1 (Nat.le_of_ble_eq_true rfl) ?_
  refine X.lv (lv2 := [(0, .ref a), (1, .int a0)]) rfl ?_
  refine x_iconst (v := (0 : Int32)) d_X10_stepOf_0 (by decide) ?_
  refine x_istore_n (lv2 := [(2, .int (0 : Int32)), (0, .ref a), (1, .int a0)]) d_X10_stepOf_1 rfl (by decide) rfl ?_
  refine x_aload_n 1 d_X10_stepOf_2 rfl rfl ?_
  refine x_getf 17 gf_X10_178 gM_0 rfl d_X10_stepOf_3 ?_
  refine x_iconst (v := (1 : Int32)) d_X10_stepOf_6 (by decide) ?_
  refine x_isub d_X10_stepOf_7 ?_
  refine x_topi (fun x1 e_x1 => ?_)
  have hQ := hQ x1 e_x1
  refine x_istore_n (lv2 := [(3, .int x1), (2, .int (0 : Int32)), (0, .ref a), (1, .int a0)]) d_X10_stepOf_8 rfl (by decide) rfl ?_
  refine x_sub [2, 3, 1, 0] (lv2 := [(0, .ref a), (1, .int a0), (2, .int (0 : Int32)), (3, .int x1)]) rfl ?_
  obtain ⟨m, hQ⟩ := hQ
  exact jt_X10_stepOf_9 hd m (0 : Int32) x1 hQ
def wp_X10_bend (s : RT) (a0 : Int32) (a1 : Int32) (K : Int64 → Prop) : Prop := vp_in (((3 : Int32) * a0) + a1) 3300 ∧ vp_in (((3 : Int32) * a0) + a1) 3300 ∧ vp_in (((3 : Int32) * a0) + a1) 3300 ∧ vp_in a0 1100 ∧ K (((s.2.1 14 (((3 : Int32) * a0) + a1).toNatClampNeg) - (s.2.1 12 (((3 : Int32) * a0) + a1).toNatClampNeg)) - (((s.2.1 13 (((3 : Int32) * a0) + a1).toNatClampNeg) * ((s.1 10 a0.toNatClampNeg).toInt64)) / (1000 : Int64)))
set_option maxHeartbeats 4000000 in
theorem sp_X10_bend {G : GX} {l : Launch} {d : Nat} {w : HW} {a : Nat} {s : RT} {a0 : Int32} {a1 : Int32} {K : Int64 → Prop} (hd : 0 ≤ d) (hQ : wp_X10_bend s a0 a1 K) : Sp G l m_X10_bend d 0 0 [.ref a, .int a0, .int a1] (put w a 22 (shM a s)) (fun r w2 => ∃ (r1 : Int64), r = some (.long r1) ∧ w2 = put w a 22 (shM a s) ∧ K r1) := by
  refine Sp.ofX k_X10_bend.1.1 (Nat.le_of_ble_eq_true rfl) ?_
  refine X.lv (lv2 := [(0, .ref a), (1, .int a0), (2, .int a1)]) rfl ?_
  refine x_aload_n 0 d_X10_bend_0 rfl rfl ?_
  refine x_getf 16 gf_X10_50 gM_0 rfl d_X10_bend_1 ?_
  refine x_iconst (v := (3 : Int32)) d_X10_bend_4 (by decide) ?_
  refine x_iload_n 1 d_X10_bend_5 rfl rfl ?_
  refine x_imul d_X10_bend_6 ?_
  refine x_iload_n 2 d_X10_bend_7 rfl rfl ?_
  refine x_iadd d_X10_bend_8 ?_
  have hN := hQ.1
  have hQ := hQ.2
  refine x_lald gM_14 hN d_X10_bend_9 ?_
  refine x_aload_n 0 d_X10_bend_10 rfl rfl ?_
  refine x_getf 14 gf_X10_43 gM_0 rfl d_X10_bend_11 ?_
  refine x_iconst (v := (3 : Int32)) d_X10_bend_14 (by decide) ?_
  refine x_iload_n 1 d_X10_bend_15 rfl rfl ?_
  refine x_imul d_X10_bend_16 ?_
  refine x_iload_n 2 d_X10_bend_17 rfl rfl ?_
  refine x_iadd d_X10_bend_18 ?_
  have hN := hQ.1
  have hQ := hQ.2
  refine x_lald gM_12 hN d_X10_bend_19 ?_
  refine x_lsub d_X10_bend_20 ?_
  refine x_aload_n 0 d_X10_bend_21 rfl rfl ?_
  refine x_getf 15 gf_X10_47 gM_0 rfl d_X10_bend_22 ?_
  refine x_iconst (v := (3 : Int32)) d_X10_bend_25 (by decide) ?_
  refine x_iload_n 1 d_X10_bend_26 rfl rfl ?_
  refine x_imul d_X10_bend_27 ?_
  refine x_iload_n 2 d_X10_bend_28 rfl rfl ?_
  refine x_iadd d_X10_bend_29 ?_
  have hN := hQ.1
  have hQ := hQ.2
  refine x_lald gM_13 hN d_X10_bend_30 ?_
  refine x_aload_n 0 d_X10_bend_31 rfl rfl ?_
  refine x_getf 12 gf_X10_37 gM_0 rfl d_X10_bend_32 ?_
  refine x_iload_n 1 d_X10_bend_35 rfl rfl ?_
  have hN := hQ.1
  have hQ := hQ.2
  refine x_iald gM_10 hN d_X10_bend_36 ?_
  refine x_i2l d_X10_bend_37 rfl ?_
  refine x_lmul d_X10_bend_38 ?_
  refine x_ldc2 (v := (1000 : Int64)) kc_X10_176 d_X10_bend_39 ?_
  refine x_ldiv d_X10_bend_42 (by decide) ?_
  refine x_lsub d_X10_bend_43 ?_
  exact x_lret (retL d_X10_bend_44 rfl) ⟨_, rfl, rfl, hQ⟩
def wp_X10_toldValue (s : RT) (a0 : Int32) (a1 : Int32) (K : Int64 → Prop) : Prop := (((0 : Int32) < a1 → wp_X10_stepOf s a1 (fun (r2 : Int32) => vp_in r2 1100 ∧ ∀ x3 : Int64, x3 = (a1 - (s.1 9 r2.toNatClampNeg)).toInt64 → vp_in r2 1100 ∧ ∀ x4 : Int64, x4 = (s.1 10 r2.toNatClampNeg).toInt64 → ((¬ (lg_cmp x3 x4) = (0 : Int32) → vp_in (((3 : Int32) * r2) + a0) 3300 ∧ vp_in (((3 : Int32) * r2) + a0) 3300 ∧ wp_X10_bend s r2 a0 (fun (r6 : Int64) => ¬ (x4 * x4) = 0 ∧ wp_X10_held (((s.2.1 12 (((3 : Int32) * r2) + a0).toNatClampNeg) + (((s.2.1 13 (((3 : Int32) * r2) + a0).toNatClampNeg) * x3) / (1000 : Int64))) + (((r6 * x3) * x3) / (x4 * x4))) (fun (r7 : Int64) => K r7))) ∧ ((lg_cmp x3 x4) = (0 : Int32) → vp_in (((3 : Int32) * r2) + a0) 3300 ∧ K (s.2.1 14 (((3 : Int32) * r2) + a0).toNatClampNeg))))) ∧ (¬ (0 : Int32) < a1 → wp_X10_historyValue s a0 a1 (fun (r8 : Int64) => K r8)))
set_option maxHeartbeats 4000000 in
theorem sp_X10_toldValue {G : GX} {l : Launch} {d : Nat} {w : HW} {a : Nat} {s : RT} {a0 : Int32} {a1 : Int32} {K : Int64 → Prop} (hd : 2 ≤ d) (hQ : wp_X10_toldValue s a0 a1 K) : Sp G l m_X10_toldValue d 0 0 [.ref a, .int a0, .int a1] (put w a 22 (shM a s)) (fun r w2 => ∃ (r1 : Int64), r = some (.long r1) ∧ w2 = put w a 22 (shM a s) ∧ K r1) := by
  refine Sp.ofX k_X10_toldValue.1.1 (Nat.le_of_ble_eq_true rfl) ?_
  refine X.lv (lv2 := [(0, .ref a), (1, .int a0), (2, .int a1)]) rfl ?_
  refine x_iload_n 2 d_X10_toldValue_0 rfl rfl ?_
  refine x_if_gt (tgt := 11) d_X10_toldValue_1 (by decide) (fun c_1_1 => ?_) (fun c_1_1 => ?_)
  · have hQ := hQ.1 c_1_1
    refine x_aload_n 0 d_X10_toldValue_11 rfl rfl ?_
    refine x_iload_n 2 d_X10_toldValue_12 rfl rfl ?_
    refine x_invV (rest := []) (d' := d - 1) (mc' := 0) (ms' := 0) [.int a1] k_X10_stepOf lk_X10_185 gM_0 rfl rfl rfl (Nat.le_of_ble_eq_true rfl) (by omega) (Nat.le_refl _) (Nat.le_refl _) d_X10_toldValue_13 ((sp_X10_stepOf (d := d - 1) (by omega) hQ).mono (fun r w2 hr => ?_))
    obtain ⟨r2, rfl, rfl, hQ⟩ := hr
    refine x_istore_n (lv2 := [(3, .int r2), (0, .ref a), (1, .int a0), (2, .int a1)]) d_X10_toldValue_16 rfl (by decide) rfl ?_
    refine x_iload_n 3 d_X10_toldValue_17 rfl rfl ?_
    refine x_aload_n 1 d_X10_toldValue_18 rfl rfl ?_
    refine x_getf 11 gf_X10_34 gM_0 rfl d_X10_toldValue_19 ?_
    refine x_iload_n 0 d_X10_toldValue_22 rfl rfl ?_
    have hN := hQ.1
    have hQ := hQ.2
    refine x_iald gM_9 hN d_X10_toldValue_23 ?_
    refine x_isub d_X10_toldValue_24 ?_
    refine x_i2l d_X10_toldValue_25 rfl ?_
    refine x_topl (fun x3 e_x3 => ?_)
    have hQ := hQ x3 e_x3
    refine x_lstore (lv2 := [(4, .long x3), (3, .int r2), (0, .ref a), (1, .int a0), (2, .int a1)]) d_X10_toldValue_26 (by decide) rfl ?_
    refine x_aload_n 2 d_X10_toldValue_28 rfl rfl ?_
    refine x_getf 12 gf_X10_37 gM_0 rfl d_X10_toldValue_29 ?_
    refine x_iload_n 1 d_X10_toldValue_32 rfl rfl ?_
    have hN := hQ.1
    have hQ := hQ.2
    refine x_iald gM_10 hN d_X10_toldValue_33 ?_
    refine x_i2l d_X10_toldValue_34 rfl ?_
    refine x_topl (fun x4 e_x4 => ?_)
    have hQ := hQ x4 e_x4
    refine x_lstore (lv2 := [(6, .long x4), (4, .long x3), (3, .int r2), (0, .ref a), (1, .int a0), (2, .int a1)]) d_X10_toldValue_35 (by decide) rfl ?_
    refine x_lload 1 d_X10_toldValue_37 rfl ?_
    refine x_lload 0 d_X10_toldValue_39 rfl ?_
    refine x_lcmp d_X10_toldValue_41 ?_
    refine x_if_ne (tgt := 56) d_X10_toldValue_42 (by decide) (fun c_42_5 => ?_) (fun c_42_5 => ?_)
    · have hQ := hQ.1 c_42_5
      refine x_aload_n 3 d_X10_toldValue_56 rfl rfl ?_
      refine x_getf 14 gf_X10_43 gM_0 rfl d_X10_toldValue_57 ?_
      refine x_iconst (v := (3 : Int32)) d_X10_toldValue_60 (by decide) ?_
      refine x_iload_n 2 d_X10_toldValue_61 rfl rfl ?_
      refine x_imul d_X10_toldValue_62 ?_
      refine x_iload_n 4 d_X10_toldValue_63 rfl rfl ?_
      refine x_iadd d_X10_toldValue_64 ?_
      have hN := hQ.1
      have hQ := hQ.2
      refine x_lald gM_12 hN d_X10_toldValue_65 ?_
      refine x_aload_n 3 d_X10_toldValue_66 rfl rfl ?_
      refine x_getf 15 gf_X10_47 gM_0 rfl d_X10_toldValue_67 ?_
      refine x_iconst (v := (3 : Int32)) d_X10_toldValue_70 (by decide) ?_
      refine x_iload_n 2 d_X10_toldValue_71 rfl rfl ?_
      refine x_imul d_X10_toldValue_72 ?_
      refine x_iload_n 4 d_X10_toldValue_73 rfl rfl ?_
      refine x_iadd d_X10_toldValue_74 ?_
      have hN := hQ.1
      have hQ := hQ.2
      refine x_lald gM_13 hN d_X10_toldValue_75 ?_
      refine x_lload 1 d_X10_toldValue_76 rfl ?_
      refine x_lmul d_X10_toldValue_78 ?_
      refine x_ldc2 (v := (1000 : Int64)) kc_X10_176 d_X10_toldValue_79 ?_
      refine x_ldiv d_X10_toldValue_82 (by decide) ?_
      refine x_ladd d_X10_toldValue_83 ?_
      refine x_aload_n 3 d_X10_toldValue_84 rfl rfl ?_
      refine x_iload_n 2 d_X10_toldValue_85 rfl rfl ?_
      refine x_iload_n 4 d_X10_toldValue_86 rfl rfl ?_
      refine x_invV (rest := [.long ((s.2.1 12 (((3 : Int32) * r2) + a0).toNatClampNeg) + (((s.2.1 13 (((3 : Int32) * r2) + a0).toNatClampNeg) * x3) / (1000 : Int64)))]) (d' := d - 1) (mc' := 0) (ms' := 0) [.int r2, .int a0] k_X10_bend lk_X10_188 gM_0 rfl rfl rfl (Nat.le_of_ble_eq_true rfl) (by omega) (Nat.le_refl _) (Nat.le_refl _) d_X10_toldValue_87 ((sp_X10_bend (d := d - 1) (by omega) hQ).mono (fun r w2 hr => ?_))
      obtain ⟨r6, rfl, rfl, hQ⟩ := hr
      refine x_lload 1 d_X10_toldValue_90 rfl ?_
      refine x_lmul d_X10_toldValue_92 ?_
      refine x_lload 1 d_X10_toldValue_93 rfl ?_
      refine x_lmul d_X10_toldValue_95 ?_
      refine x_lload 0 d_X10_toldValue_96 rfl ?_
      refine x_lload 0 d_X10_toldValue_98 rfl ?_
      refine x_lmul d_X10_toldValue_100 ?_
      have hN := hQ.1
      have hQ := hQ.2
      refine x_ldiv d_X10_toldValue_101 hN ?_
      refine x_ladd d_X10_toldValue_102 ?_
      refine x_invS (rest := []) (d' := d - 1) (mc' := 0) (ms' := 0) [.long (((s.2.1 12 (((3 : Int32) * r2) + a0).toNatClampNeg) + (((s.2.1 13 (((3 : Int32) * r2) + a0).toNatClampNeg) * x3) / (1000 : Int64))) + (((r6 * x3) * x3) / (x4 * x4)))] k_X10_held lk_X10_191 rfl rfl (Nat.le_of_ble_eq_true rfl) (by omega) (Nat.le_refl _) (Nat.le_refl _) d_X10_toldValue_103 ((sp_X10_held (d := d - 1) (by omega) hQ).mono (fun r w2 hr => ?_))
      obtain ⟨r7, rfl, rfl, hQ⟩ := hr
      exact x_lret (retL d_X10_toldValue_106 rfl) ⟨_, rfl, rfl, hQ⟩
    · have hQ := hQ.2 c_42_5
      refine x_aload_n 3 d_X10_toldValue_45 rfl rfl ?_
      refine x_getf 16 gf_X10_50 gM_0 rfl d_X10_toldValue_46 ?_
      refine x_iconst (v := (3 : Int32)) d_X10_toldValue_49 (by decide) ?_
      refine x_iload_n 2 d_X10_toldValue_50 rfl rfl ?_
      refine x_imul d_X10_toldValue_51 ?_
      refine x_iload_n 4 d_X10_toldValue_52 rfl rfl ?_
      refine x_iadd d_X10_toldValue_53 ?_
      have hN := hQ.1
      have hQ := hQ.2
      refine x_lald gM_14 hN d_X10_toldValue_54 ?_
      exact x_lret (retL d_X10_toldValue_55 rfl) ⟨_, rfl, rfl, hQ⟩
  · have hQ := hQ.2 c_1_1
    refine x_aload_n 0 d_X10_toldValue_4 rfl rfl ?_
    refine x_iload_n 1 d_X10_toldValue_5 rfl rfl ?_
    refine x_iload_n 2 d_X10_toldValue_6 rfl rfl ?_
    refine x_invV (rest := []) (d' := d - 1) (mc' := 0) (ms' := 0) [.int a0, .int a1] k_X10_historyValue lk_X10_181 gM_0 rfl rfl rfl (Nat.le_of_ble_eq_true rfl) (by omega) (Nat.le_refl _) (Nat.le_refl _) d_X10_toldValue_7 ((sp_X10_historyValue (d := d - 1) (by omega) hQ).mono (fun r w2 hr => ?_))
    obtain ⟨r8, rfl, rfl, hQ⟩ := hr
    exact x_lret (retL d_X10_toldValue_10 rfl) ⟨_, rfl, rfl, hQ⟩
def wp_X10_toldSlope (s : RT) (a0 : Int32) (a1 : Int32) (K : Int64 → Prop) : Prop := (((0 : Int32) < a1 → wp_X10_stepOf s a1 (fun (r2 : Int32) => vp_in r2 1100 ∧ ∀ x3 : Int64, x3 = (a1 - (s.1 9 r2.toNatClampNeg)).toInt64 → vp_in r2 1100 ∧ ∀ x4 : Int64, x4 = (s.1 10 r2.toNatClampNeg).toInt64 → vp_in (((3 : Int32) * r2) + a0) 3300 ∧ wp_X10_bend s r2 a0 (fun (r5 : Int64) => ¬ (x4 * x4) = 0 ∧ wp_X10_held ((s.2.1 13 (((3 : Int32) * r2) + a0).toNatClampNeg) + ((((2000 : Int64) * r5) * x3) / (x4 * x4))) (fun (r6 : Int64) => K r6)))) ∧ (¬ (0 : Int32) < a1 → wp_X10_historySlope s a0 a1 (fun (r7 : Int64) => K r7)))
set_option maxHeartbeats 4000000 in
theorem sp_X10_toldSlope {G : GX} {l : Launch} {d : Nat} {w : HW} {a : Nat} {s : RT} {a0 : Int32} {a1 : Int32} {K : Int64 → Prop} (hd : 2 ≤ d) (hQ : wp_X10_toldSlope s a0 a1 K) : Sp G l m_X10_toldSlope d 0 0 [.ref a, .int a0, .int a1] (put w a 22 (shM a s)) (fun r w2 => ∃ (r1 : Int64), r = some (.long r1) ∧ w2 = put w a 22 (shM a s) ∧ K r1) := by
  refine Sp.ofX k_X10_toldSlope.1.1 (Nat.le_of_ble_eq_true rfl) ?_
  refine X.lv (lv2 := [(0, .ref a), (1, .int a0), (2, .int a1)]) rfl ?_
  refine x_iload_n 2 d_X10_toldSlope_0 rfl rfl ?_
  refine x_if_gt (tgt := 11) d_X10_toldSlope_1 (by decide) (fun c_1_1 => ?_) (fun c_1_1 => ?_)
  · have hQ := hQ.1 c_1_1
    refine x_aload_n 0 d_X10_toldSlope_11 rfl rfl ?_
    refine x_iload_n 2 d_X10_toldSlope_12 rfl rfl ?_
    refine x_invV (rest := []) (d' := d - 1) (mc' := 0) (ms' := 0) [.int a1] k_X10_stepOf lk_X10_185 gM_0 rfl rfl rfl (Nat.le_of_ble_eq_true rfl) (by omega) (Nat.le_refl _) (Nat.le_refl _) d_X10_toldSlope_13 ((sp_X10_stepOf (d := d - 1) (by omega) hQ).mono (fun r w2 hr => ?_))
    obtain ⟨r2, rfl, rfl, hQ⟩ := hr
    refine x_istore_n (lv2 := [(3, .int r2), (0, .ref a), (1, .int a0), (2, .int a1)]) d_X10_toldSlope_16 rfl (by decide) rfl ?_
    refine x_iload_n 3 d_X10_toldSlope_17 rfl rfl ?_
    refine x_aload_n 1 d_X10_toldSlope_18 rfl rfl ?_
    refine x_getf 11 gf_X10_34 gM_0 rfl d_X10_toldSlope_19 ?_
    refine x_iload_n 0 d_X10_toldSlope_22 rfl rfl ?_
    have hN := hQ.1
    have hQ := hQ.2
    refine x_iald gM_9 hN d_X10_toldSlope_23 ?_
    refine x_isub d_X10_toldSlope_24 ?_
    refine x_i2l d_X10_toldSlope_25 rfl ?_
    refine x_topl (fun x3 e_x3 => ?_)
    have hQ := hQ x3 e_x3
    refine x_lstore (lv2 := [(4, .long x3), (3, .int r2), (0, .ref a), (1, .int a0), (2, .int a1)]) d_X10_toldSlope_26 (by decide) rfl ?_
    refine x_aload_n 2 d_X10_toldSlope_28 rfl rfl ?_
    refine x_getf 12 gf_X10_37 gM_0 rfl d_X10_toldSlope_29 ?_
    refine x_iload_n 1 d_X10_toldSlope_32 rfl rfl ?_
    have hN := hQ.1
    have hQ := hQ.2
    refine x_iald gM_10 hN d_X10_toldSlope_33 ?_
    refine x_i2l d_X10_toldSlope_34 rfl ?_
    refine x_topl (fun x4 e_x4 => ?_)
    have hQ := hQ x4 e_x4
    refine x_lstore (lv2 := [(6, .long x4), (4, .long x3), (3, .int r2), (0, .ref a), (1, .int a0), (2, .int a1)]) d_X10_toldSlope_35 (by decide) rfl ?_
    refine x_aload_n 3 d_X10_toldSlope_37 rfl rfl ?_
    refine x_getf 15 gf_X10_47 gM_0 rfl d_X10_toldSlope_38 ?_
    refine x_iconst (v := (3 : Int32)) d_X10_toldSlope_41 (by decide) ?_
    refine x_iload_n 2 d_X10_toldSlope_42 rfl rfl ?_
    refine x_imul d_X10_toldSlope_43 ?_
    refine x_iload_n 4 d_X10_toldSlope_44 rfl rfl ?_
    refine x_iadd d_X10_toldSlope_45 ?_
    have hN := hQ.1
    have hQ := hQ.2
    refine x_lald gM_13 hN d_X10_toldSlope_46 ?_
    refine x_ldc2 (v := (2000 : Int64)) kc_X10_198 d_X10_toldSlope_47 ?_
    refine x_aload_n 3 d_X10_toldSlope_50 rfl rfl ?_
    refine x_iload_n 2 d_X10_toldSlope_51 rfl rfl ?_
    refine x_iload_n 4 d_X10_toldSlope_52 rfl rfl ?_
    refine x_invV (rest := [.long (2000 : Int64), .long (s.2.1 13 (((3 : Int32) * r2) + a0).toNatClampNeg)]) (d' := d - 1) (mc' := 0) (ms' := 0) [.int r2, .int a0] k_X10_bend lk_X10_188 gM_0 rfl rfl rfl (Nat.le_of_ble_eq_true rfl) (by omega) (Nat.le_refl _) (Nat.le_refl _) d_X10_toldSlope_53 ((sp_X10_bend (d := d - 1) (by omega) hQ).mono (fun r w2 hr => ?_))
    obtain ⟨r5, rfl, rfl, hQ⟩ := hr
    refine x_lmul d_X10_toldSlope_56 ?_
    refine x_lload 1 d_X10_toldSlope_57 rfl ?_
    refine x_lmul d_X10_toldSlope_59 ?_
    refine x_lload 0 d_X10_toldSlope_60 rfl ?_
    refine x_lload 0 d_X10_toldSlope_62 rfl ?_
    refine x_lmul d_X10_toldSlope_64 ?_
    have hN := hQ.1
    have hQ := hQ.2
    refine x_ldiv d_X10_toldSlope_65 hN ?_
    refine x_ladd d_X10_toldSlope_66 ?_
    refine x_invS (rest := []) (d' := d - 1) (mc' := 0) (ms' := 0) [.long ((s.2.1 13 (((3 : Int32) * r2) + a0).toNatClampNeg) + ((((2000 : Int64) * r5) * x3) / (x4 * x4)))] k_X10_held lk_X10_191 rfl rfl (Nat.le_of_ble_eq_true rfl) (by omega) (Nat.le_refl _) (Nat.le_refl _) d_X10_toldSlope_67 ((sp_X10_held (d := d - 1) (by omega) hQ).mono (fun r w2 hr => ?_))
    obtain ⟨r6, rfl, rfl, hQ⟩ := hr
    exact x_lret (retL d_X10_toldSlope_70 rfl) ⟨_, rfl, rfl, hQ⟩
  · have hQ := hQ.2 c_1_1
    refine x_aload_n 0 d_X10_toldSlope_4 rfl rfl ?_
    refine x_iload_n 1 d_X10_toldSlope_5 rfl rfl ?_
    refine x_iload_n 2 d_X10_toldSlope_6 rfl rfl ?_
    refine x_invV (rest := []) (d' := d - 1) (mc' := 0) (ms' := 0) [.int a0, .int a1] k_X10_historySlope lk_X10_195 gM_0 rfl rfl rfl (Nat.le_of_ble_eq_true rfl) (by omega) (Nat.le_refl _) (Nat.le_refl _) d_X10_toldSlope_7 ((sp_X10_historySlope (d := d - 1) (by omega) hQ).mono (fun r w2 hr => ?_))
    obtain ⟨r7, rfl, rfl, hQ⟩ := hr
    exact x_lret (retL d_X10_toldSlope_10 rfl) ⟨_, rfl, rfl, hQ⟩
def jp_X10_valueAt_53 (s : RT) (a0 : Int32) (a1 : Int32) (K : Int64 → Prop) : Prop := wp_X10_toldValue s a0 a1 (fun (r2 : Int64) => K r2)
set_option maxHeartbeats 4000000 in
theorem jt_X10_valueAt_53 {G : GX} {l : Launch} {d : Nat} {w : HW} {a : Nat} {s : RT} {a0 : Int32} {a1 : Int32} {K : Int64 → Prop} (hd : 3 ≤ d) (hQ : jp_X10_valueAt_53 s a0 a1 K) : X G l m_X10_valueAt d 0 0 0 0 53 [(0, .ref a), (1, .int a0), (2, .int a1)] [] (put w a 22 (shM a s)) (fun r w2 => ∃ (r1 : Int64), r = some (.long r1) ∧ w2 = put w a 22 (shM a s) ∧ K r1) := by
  refine x_aload_n 0 d_X10_valueAt_53 rfl rfl ?_
  refine x_iload_n 1 d_X10_valueAt_54 rfl rfl ?_
  refine x_iload_n 2 d_X10_valueAt_55 rfl rfl ?_
  refine x_invV (rest := []) (d' := d - 1) (mc' := 0) (ms' := 0) [.int a0, .int a1] k_X10_toldValue lk_X10_210 gM_0 rfl rfl rfl (Nat.le_of_ble_eq_true rfl) (by omega) (Nat.le_refl _) (Nat.le_refl _) d_X10_valueAt_56 ((sp_X10_toldValue (d := d - 1) (by omega) hQ).mono (fun r w2 hr => ?_))
  obtain ⟨r2, rfl, rfl, hQ⟩ := hr
  exact x_lret (retL d_X10_valueAt_59 rfl) ⟨_, rfl, rfl, hQ⟩
def wp_X10_valueAt (s : RT) (a0 : Int32) (a1 : Int32) (K : Int64 → Prop) : Prop := (((s.2.2 19) = (0 : Int32) → jp_X10_valueAt_53 s a0 a1 K ) ∧ (¬ (s.2.2 19) = (0 : Int32) → ((a1 ≤ (s.2.2 20) → jp_X10_valueAt_53 s a0 a1 K ) ∧ (¬ a1 ≤ (s.2.2 20) → vp_in a0 3 ∧ vp_in a0 3 ∧ vp_in a0 3 ∧ ¬ ((s.2.2 21).toInt64) = 0 ∧ wp_X10_held ((s.2.1 15 a0.toNatClampNeg) + ((((s.2.1 16 a0.toNatClampNeg) - (s.2.1 15 a0.toNatClampNeg)) * ((a1 - (s.2.2 20)).toInt64)) / ((s.2.2 21).toInt64))) (fun (r4 : Int64) => K r4)))))
set_option maxHeartbeats 4000000 in
theorem sp_X10_valueAt {G : GX} {l : Launch} {d : Nat} {w : HW} {a : Nat} {s : RT} {a0 : Int32} {a1 : Int32} {K : Int64 → Prop} (hd : 3 ≤ d) (hQ : wp_X10_valueAt s a0 a1 K) : Sp G l m_X10_valueAt d 0 0 [.ref a, .int a0, .int a1] (put w a 22 (shM a s)) (fun r w2 => ∃ (r1 : Int64), r = some (.long r1) ∧ w2 = put w a 22 (shM a s) ∧ K r1) := by
  refine Sp.ofX k_X10_valueAt.1.1 (Nat.le_of_ble_eq_true rfl) ?_
  refine X.lv (lv2 := [(0, .ref a), (1, .int a0), (2, .int a1)]) rfl ?_
  refine x_aload_n 0 d_X10_valueAt_0 rfl rfl ?_
  refine x_getf 19 gf_X10_200 gM_0 rfl d_X10_valueAt_1 ?_
  refine x_if_eq (tgt := 53) d_X10_valueAt_4 (by decide) (fun c_4_1 => ?_) (fun c_4_1 => ?_)
  · have hQ := hQ.1 c_4_1
    refine x_sub [0, 1, 2] (lv2 := [(0, .ref a), (1, .int a0), (2, .int a1)]) rfl ?_
    exact jt_X10_valueAt_53 hd  hQ
  · have hQ := hQ.2 c_4_1
    refine x_iload_n 2 d_X10_valueAt_7 rfl rfl ?_
    refine x_aload_n 0 d_X10_valueAt_8 rfl rfl ?_
    refine x_getf 20 gf_X10_204 gM_0 rfl d_X10_valueAt_9 ?_
    refine x_icmp_le (tgt := 53) d_X10_valueAt_12 (by decide) (fun c_12_3 => ?_) (fun c_12_3 => ?_)
    · have hQ := hQ.1 c_12_3
      refine x_sub [0, 1, 2] (lv2 := [(0, .ref a), (1, .int a0), (2, .int a1)]) rfl ?_
      exact jt_X10_valueAt_53 hd  hQ
    · have hQ := hQ.2 c_12_3
      refine x_aload_n 0 d_X10_valueAt_15 rfl rfl ?_
      refine x_getf 22 gf_X10_53 gM_0 rfl d_X10_valueAt_16 ?_
      refine x_iload_n 1 d_X10_valueAt_19 rfl rfl ?_
      have hN := hQ.1
      have hQ := hQ.2
      refine x_lald gM_15 hN d_X10_valueAt_20 ?_
      refine x_aload_n 0 d_X10_valueAt_21 rfl rfl ?_
      refine x_getf 23 gf_X10_56 gM_0 rfl d_X10_valueAt_22 ?_
      refine x_iload_n 1 d_X10_valueAt_25 rfl rfl ?_
      have hN := hQ.1
      have hQ := hQ.2
      refine x_lald gM_16 hN d_X10_valueAt_26 ?_
      refine x_aload_n 0 d_X10_valueAt_27 rfl rfl ?_
      refine x_getf 22 gf_X10_53 gM_0 rfl d_X10_valueAt_28 ?_
      refine x_iload_n 1 d_X10_valueAt_31 rfl rfl ?_
      have hN := hQ.1
      have hQ := hQ.2
      refine x_lald gM_15 hN d_X10_valueAt_32 ?_
      refine x_lsub d_X10_valueAt_33 ?_
      refine x_iload_n 2 d_X10_valueAt_34 rfl rfl ?_
      refine x_aload_n 0 d_X10_valueAt_35 rfl rfl ?_
      refine x_getf 20 gf_X10_204 gM_0 rfl d_X10_valueAt_36 ?_
      refine x_isub d_X10_valueAt_39 ?_
      refine x_i2l d_X10_valueAt_40 rfl ?_
      refine x_lmul d_X10_valueAt_41 ?_
      refine x_aload_n 0 d_X10_valueAt_42 rfl rfl ?_
      refine x_getf 21 gf_X10_207 gM_0 rfl d_X10_valueAt_43 ?_
      refine x_i2l d_X10_valueAt_46 rfl ?_
      have hN := hQ.1
      have hQ := hQ.2
      refine x_ldiv d_X10_valueAt_47 hN ?_
      refine x_ladd d_X10_valueAt_48 ?_
      refine x_invS (rest := []) (d' := d - 1) (mc' := 0) (ms' := 0) [.long ((s.2.1 15 a0.toNatClampNeg) + ((((s.2.1 16 a0.toNatClampNeg) - (s.2.1 15 a0.toNatClampNeg)) * ((a1 - (s.2.2 20)).toInt64)) / ((s.2.2 21).toInt64)))] k_X10_held lk_X10_191 rfl rfl (Nat.le_of_ble_eq_true rfl) (by omega) (Nat.le_refl _) (Nat.le_refl _) d_X10_valueAt_49 ((sp_X10_held (d := d - 1) (by omega) hQ).mono (fun r w2 hr => ?_))
      obtain ⟨r4, rfl, rfl, hQ⟩ := hr
      exact x_lret (retL d_X10_valueAt_52 rfl) ⟨_, rfl, rfl, hQ⟩
def jp_X10_slopeAt_42 (s : RT) (a0 : Int32) (a1 : Int32) (K : Int64 → Prop) : Prop := wp_X10_toldSlope s a0 a1 (fun (r2 : Int64) => K r2)
set_option maxHeartbeats 4000000 in
theorem jt_X10_slopeAt_42 {G : GX} {l : Launch} {d : Nat} {w : HW} {a : Nat} {s : RT} {a0 : Int32} {a1 : Int32} {K : Int64 → Prop} (hd : 3 ≤ d) (hQ : jp_X10_slopeAt_42 s a0 a1 K) : X G l m_X10_slopeAt d 0 0 0 0 42 [(0, .ref a), (1, .int a0), (2, .int a1)] [] (put w a 22 (shM a s)) (fun r w2 => ∃ (r1 : Int64), r = some (.long r1) ∧ w2 = put w a 22 (shM a s) ∧ K r1) := by
  refine x_aload_n 0 d_X10_slopeAt_42 rfl rfl ?_
  refine x_iload_n 1 d_X10_slopeAt_43 rfl rfl ?_
  refine x_iload_n 2 d_X10_slopeAt_44 rfl rfl ?_
  refine x_invV (rest := []) (d' := d - 1) (mc' := 0) (ms' := 0) [.int a0, .int a1] k_X10_toldSlope lk_X10_213 gM_0 rfl rfl rfl (Nat.le_of_ble_eq_true rfl) (by omega) (Nat.le_refl _) (Nat.le_refl _) d_X10_slopeAt_45 ((sp_X10_toldSlope (d := d - 1) (by omega) hQ).mono (fun r w2 hr => ?_))
  obtain ⟨r2, rfl, rfl, hQ⟩ := hr
  exact x_lret (retL d_X10_slopeAt_48 rfl) ⟨_, rfl, rfl, hQ⟩
def wp_X10_slopeAt (s : RT) (a0 : Int32) (a1 : Int32) (K : Int64 → Prop) : Prop := (((s.2.2 19) = (0 : Int32) → jp_X10_slopeAt_42 s a0 a1 K ) ∧ (¬ (s.2.2 19) = (0 : Int32) → ((a1 ≤ (s.2.2 20) → jp_X10_slopeAt_42 s a0 a1 K ) ∧ (¬ a1 ≤ (s.2.2 20) → vp_in a0 3 ∧ vp_in a0 3 ∧ ¬ ((s.2.2 21).toInt64) = 0 ∧ wp_X10_held ((((s.2.1 16 a0.toNatClampNeg) - (s.2.1 15 a0.toNatClampNeg)) * (1000 : Int64)) / ((s.2.2 21).toInt64)) (fun (r4 : Int64) => K r4)))))
set_option maxHeartbeats 4000000 in
theorem sp_X10_slopeAt {G : GX} {l : Launch} {d : Nat} {w : HW} {a : Nat} {s : RT} {a0 : Int32} {a1 : Int32} {K : Int64 → Prop} (hd : 3 ≤ d) (hQ : wp_X10_slopeAt s a0 a1 K) : Sp G l m_X10_slopeAt d 0 0 [.ref a, .int a0, .int a1] (put w a 22 (shM a s)) (fun r w2 => ∃ (r1 : Int64), r = some (.long r1) ∧ w2 = put w a 22 (shM a s) ∧ K r1) := by
  refine Sp.ofX k_X10_slopeAt.1.1 (Nat.le_of_ble_eq_true rfl) ?_
  refine X.lv (lv2 := [(0, .ref a), (1, .int a0), (2, .int a1)]) rfl ?_
  refine x_aload_n 0 d_X10_slopeAt_0 rfl rfl ?_
  refine x_getf 19 gf_X10_200 gM_0 rfl d_X10_slopeAt_1 ?_
  refine x_if_eq (tgt := 42) d_X10_slopeAt_4 (by decide) (fun c_4_1 => ?_) (fun c_4_1 => ?_)
  · have hQ := hQ.1 c_4_1
    refine x_sub [0, 1, 2] (lv2 := [(0, .ref a), (1, .int a0), (2, .int a1)]) rfl ?_
    exact jt_X10_slopeAt_42 hd  hQ
  · have hQ := hQ.2 c_4_1
    refine x_iload_n 2 d_X10_slopeAt_7 rfl rfl ?_
    refine x_aload_n 0 d_X10_slopeAt_8 rfl rfl ?_
    refine x_getf 20 gf_X10_204 gM_0 rfl d_X10_slopeAt_9 ?_
    refine x_icmp_le (tgt := 42) d_X10_slopeAt_12 (by decide) (fun c_12_3 => ?_) (fun c_12_3 => ?_)
    · have hQ := hQ.1 c_12_3
      refine x_sub [0, 1, 2] (lv2 := [(0, .ref a), (1, .int a0), (2, .int a1)]) rfl ?_
      exact jt_X10_slopeAt_42 hd  hQ
    · have hQ := hQ.2 c_12_3
      refine x_aload_n 0 d_X10_slopeAt_15 rfl rfl ?_
      refine x_getf 23 gf_X10_56 gM_0 rfl d_X10_slopeAt_16 ?_
      refine x_iload_n 1 d_X10_slopeAt_19 rfl rfl ?_
      have hN := hQ.1
      have hQ := hQ.2
      refine x_lald gM_16 hN d_X10_slopeAt_20 ?_
      refine x_aload_n 0 d_X10_slopeAt_21 rfl rfl ?_
      refine x_getf 22 gf_X10_53 gM_0 rfl d_X10_slopeAt_22 ?_
      refine x_iload_n 1 d_X10_slopeAt_25 rfl rfl ?_
      have hN := hQ.1
      have hQ := hQ.2
      refine x_lald gM_15 hN d_X10_slopeAt_26 ?_
      refine x_lsub d_X10_slopeAt_27 ?_
      refine x_ldc2 (v := (1000 : Int64)) kc_X10_176 d_X10_slopeAt_28 ?_
      refine x_lmul d_X10_slopeAt_31 ?_
      refine x_aload_n 0 d_X10_slopeAt_32 rfl rfl ?_
      refine x_getf 21 gf_X10_207 gM_0 rfl d_X10_slopeAt_33 ?_
      refine x_i2l d_X10_slopeAt_36 rfl ?_
      have hN := hQ.1
      have hQ := hQ.2
      refine x_ldiv d_X10_slopeAt_37 hN ?_
      refine x_invS (rest := []) (d' := d - 1) (mc' := 0) (ms' := 0) [.long ((((s.2.1 16 a0.toNatClampNeg) - (s.2.1 15 a0.toNatClampNeg)) * (1000 : Int64)) / ((s.2.2 21).toInt64))] k_X10_held lk_X10_191 rfl rfl (Nat.le_of_ble_eq_true rfl) (by omega) (Nat.le_refl _) (Nat.le_refl _) d_X10_slopeAt_38 ((sp_X10_held (d := d - 1) (by omega) hQ).mono (fun r w2 hr => ?_))
      obtain ⟨r4, rfl, rfl, hQ⟩ := hr
      exact x_lret (retL d_X10_slopeAt_41 rfl) ⟨_, rfl, rfl, hQ⟩
