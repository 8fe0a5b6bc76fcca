def wp_X10_rank (a0 : Int32) (K : Int32 → Prop) : Prop := ((a0 = (42 : Int32) → K (2 : Int32)) ∧ (¬ a0 = (42 : Int32) → ((¬ a0 = (47 : Int32) → ((a0 = (43 : Int32) → K (1 : Int32)) ∧ (¬ a0 = (43 : Int32) → ((¬ a0 = (45 : Int32) → K (0 : Int32)) ∧ (a0 = (45 : Int32) → K (1 : Int32)))))) ∧ (a0 = (47 : Int32) → K (2 : Int32)))))
set_option maxHeartbeats 4000000 in
theorem sp_X10_rank {G : GX} {l : Launch} {d : Nat} {w : HW} {a0 : Int32} {K : Int32 → Prop} (hd : 0 ≤ d) (hQ : wp_X10_rank a0 K) : Sp G l m_X10_rank d 0 0 [.int a0] (w) (fun r w2 => ∃ (r1 : Int32), r = some (.int r1) ∧ w2 = w ∧ K r1) := by
  refine Sp.ofX k_X10_rank.1.1 (Nat.le_of_ble_eq_true rfl) ?_
  refine X.lv (lv2 := [(0, .int a0)]) rfl ?_
  refine x_iload_n 0 d_X10_rank_0 rfl rfl ?_
  refine x_bipush (v := (42 : Int32)) d_X10_rank_1 (by decide) ?_
  refine x_icmp_eq (tgt := 12) d_X10_rank_3 (by decide) (fun c_3_1 => ?_) (fun c_3_1 => ?_)
  · have hQ := hQ.1 c_3_1
    refine x_iconst (v := (2 : Int32)) d_X10_rank_12 (by decide) ?_
    refine x_goto (tgt := 33) d_X10_rank_13 (by decide) ?_
    exact x_iret (retI d_X10_rank_33 rfl) ⟨_, rfl, rfl, hQ⟩
  · have hQ := hQ.2 c_3_1
    refine x_iload_n 0 d_X10_rank_6 rfl rfl ?_
    refine x_bipush (v := (47 : Int32)) d_X10_rank_7 (by decide) ?_
    refine x_icmp_ne (tgt := 16) d_X10_rank_9 (by decide) (fun c_9_2 => ?_) (fun c_9_2 => ?_)
    · have hQ := hQ.1 c_9_2
      refine x_iload_n 0 d_X10_rank_16 rfl rfl ?_
      refine x_bipush (v := (43 : Int32)) d_X10_rank_17 (by decide) ?_
      refine x_icmp_eq (tgt := 28) d_X10_rank_19 (by decide) (fun c_19_3 => ?_) (fun c_19_3 => ?_)
      · have hQ := hQ.1 c_19_3
        refine x_iconst (v := (1 : Int32)) d_X10_rank_28 (by decide) ?_
        refine x_goto (tgt := 33) d_X10_rank_29 (by decide) ?_
        exact x_iret (retI d_X10_rank_33 rfl) ⟨_, rfl, rfl, hQ⟩
      · have hQ := hQ.2 c_19_3
        refine x_iload_n 0 d_X10_rank_22 rfl rfl ?_
        refine x_bipush (v := (45 : Int32)) d_X10_rank_23 (by decide) ?_
        refine x_icmp_ne (tgt := 32) d_X10_rank_25 (by decide) (fun c_25_4 => ?_) (fun c_25_4 => ?_)
        · have hQ := hQ.1 c_25_4
          refine x_iconst (v := (0 : Int32)) d_X10_rank_32 (by decide) ?_
          exact x_iret (retI d_X10_rank_33 rfl) ⟨_, rfl, rfl, hQ⟩
        · have hQ := hQ.2 c_25_4
          refine x_iconst (v := (1 : Int32)) d_X10_rank_28 (by decide) ?_
          refine x_goto (tgt := 33) d_X10_rank_29 (by decide) ?_
          exact x_iret (retI d_X10_rank_33 rfl) ⟨_, rfl, rfl, hQ⟩
    · have hQ := hQ.2 c_9_2
      refine x_iconst (v := (2 : Int32)) d_X10_rank_12 (by decide) ?_
      refine x_goto (tgt := 33) d_X10_rank_13 (by decide) ?_
      exact x_iret (retI d_X10_rank_33 rfl) ⟨_, rfl, rfl, hQ⟩
def jp_X10_carriesOut_114 (K : RT → Prop) (t_0 : Int64) (y_0 : RT) : Prop := wp_X10_held t_0 (fun (r10 : Int64) => vp_in ((y_0.2.2 29) - (1 : Int32)) 80 ∧ ∀ s11 : RT, s11 = rL y_0 20 (vp_updL (y_0.2.1 20) ((y_0.2.2 29) - (1 : Int32)).toNatClampNeg r10) → K s11)
set_option maxHeartbeats 4000000 in
theorem jt_X10_carriesOut_114 {G : GX} {l : Launch} {d : Nat} {w : HW} {a : Nat} {K : RT → Prop} (hd : 1 ≤ d) (t_0 : Int64) (y_0 : RT) (hQ : jp_X10_carriesOut_114 K t_0 y_0) : X G l m_X10_carriesOut d 0 0 0 0 114 [(0, .ref a)] [.long t_0] (put w a 22 (shM a y_0)) (fun r w2 => ∃ (z0 : RT), r = none ∧ w2 = put w a 22 (shM a z0) ∧ K z0) := by
  refine x_lstore (lv2 := [(6, .long t_0), (0, .ref a)]) d_X10_carriesOut_114 (by decide) rfl ?_
  refine x_aload_n 1 d_X10_carriesOut_116 rfl rfl ?_
  refine x_getf 27 gf_X10_68 gM_0 rfl d_X10_carriesOut_117 ?_
  refine x_aload_n 1 d_X10_carriesOut_120 rfl rfl ?_
  refine x_getf 29 gf_X10_219 gM_0 rfl d_X10_carriesOut_121 ?_
  refine x_iconst (v := (1 : Int32)) d_X10_carriesOut_124 (by decide) ?_
  refine x_isub d_X10_carriesOut_125 ?_
  refine x_lload 0 d_X10_carriesOut_126 rfl ?_
  refine x_invS (rest := [.int ((y_0.2.2 29) - (1 : Int32)), .ref (a + 20)]) (d' := d - 1) (mc' := 0) (ms' := 0) [.long t_0] k_X10_held lk_X10_191 rfl rfl (Nat.le_of_ble_eq_true rfl) (by omega) (Nat.le_refl _) (Nat.le_refl _) d_X10_carriesOut_128 ((sp_X10_held (d := d - 1) (by omega) hQ).mono (fun r w2 hr => ?_))
  obtain ⟨r10, rfl, rfl, hQ⟩ := hr
  have hN := hQ.1
  have hQ := hQ.2
  refine x_last gM_20 hN d_X10_carriesOut_131 ?_
  obtain ⟨s11, e_s11⟩ : ∃ z : RT, z = rL y_0 20 (vp_updL (y_0.2.1 20) ((y_0.2.2 29) - (1 : Int32)).toNatClampNeg r10) := ⟨_, rfl⟩
  have hQ := hQ s11 e_s11
  refine X.world (w2 := put w a 22 (shM a s11)) (by rw [e_s11]; exact sM_20) ?_
  exact x_vret (retV d_X10_carriesOut_132 rfl) ⟨_, rfl, rfl, hQ⟩
def wp_X10_carriesOut (s : RT) (K : RT → Prop) : Prop := ∀ s1 : RT, s1 = rS s 30 ((s.2.2 30) - (1 : Int32)) → vp_in (s1.2.2 30) 160 ∧ ∀ x2 : Int32, x2 = (s1.1 21 (s1.2.2 30).toNatClampNeg) → ∀ s3 : RT, s3 = rS s1 29 ((s1.2.2 29) - (1 : Int32)) → vp_in (s3.2.2 29) 80 ∧ ∀ x4 : Int64, x4 = (s3.2.1 20 (s3.2.2 29).toNatClampNeg) → vp_in ((s3.2.2 29) - (1 : Int32)) 80 ∧ ∀ x5 : Int64, x5 = (s3.2.1 20 ((s3.2.2 29) - (1 : Int32)).toNatClampNeg) → ((¬ x2 = (43 : Int32) → ((¬ x2 = (45 : Int32) → ((¬ x2 = (42 : Int32) → ((¬ (lg_cmp x4 (0 : Int64)) = (0 : Int32) → ¬ x4 = 0 ∧ jp_X10_carriesOut_114  K ((x5 * (1000 : Int64)) / x4) s3) ∧ ((lg_cmp x4 (0 : Int64)) = (0 : Int32) → jp_X10_carriesOut_114  K (0 : Int64) s3))) ∧ (x2 = (42 : Int32) → jp_X10_carriesOut_114  K ((x5 * x4) / (1000 : Int64)) s3))) ∧ (x2 = (45 : Int32) → jp_X10_carriesOut_114  K (x5 - x4) s3))) ∧ (x2 = (43 : Int32) → jp_X10_carriesOut_114  K (x5 + x4) s3))
set_option maxHeartbeats 4000000 in
theorem sp_X10_carriesOut {G : GX} {l : Launch} {d : Nat} {w : HW} {a : Nat} {s : RT} {K : RT → Prop} (hd : 1 ≤ d) (hQ : wp_X10_carriesOut s K) : Sp G l m_X10_carriesOut d 0 0 [.ref a] (put w a 22 (shM a s)) (fun r w2 => ∃ (z0 : RT), r = none ∧ w2 = put w a 22 (shM a z0) ∧ K z0) := by
  refine Sp.ofX k_X10_carriesOut.1.1 (Nat.le_of_ble_eq_true rfl) ?_
  refine X.lv (lv2 := [(0, .ref a)]) rfl ?_
  refine x_aload_n 0 d_X10_carriesOut_0 rfl rfl ?_
  refine x_dup d_X10_carriesOut_1 rfl ?_
  refine x_getf 30 gf_X10_216 gM_0 rfl d_X10_carriesOut_2 ?_
  refine x_iconst (v := (1 : Int32)) d_X10_carriesOut_5 (by decide) ?_
  refine x_isub d_X10_carriesOut_6 ?_
  refine x_putf 30 (.int) pf_X10_216 gM_0 rfl rfl (Nat.le_of_ble_eq_true rfl) d_X10_carriesOut_7 ?_
  obtain ⟨s1, e_s1⟩ : ∃ z : RT, z = rS s 30 ((s.2.2 30) - (1 : Int32)) := ⟨_, rfl⟩
  have hQ := hQ s1 e_s1
  refine X.world (w2 := put w a 22 (shM a s1)) (by rw [e_s1]; exact sM_0_30) ?_
  refine x_aload_n 0 d_X10_carriesOut_10 rfl rfl ?_
  refine x_getf 28 gf_X10_71 gM_0 rfl d_X10_carriesOut_11 ?_
  refine x_aload_n 0 d_X10_carriesOut_14 rfl rfl ?_
  refine x_getf 30 gf_X10_216 gM_0 rfl d_X10_carriesOut_15 ?_
  have hN := hQ.1
  have hQ := hQ.2
  refine x_iald gM_21 hN d_X10_carriesOut_18 ?_
  refine x_topi (fun x2 e_x2 => ?_)
  have hQ := hQ x2 e_x2
  refine x_istore_n (lv2 := [(1, .int x2), (0, .ref a)]) d_X10_carriesOut_19 rfl (by decide) rfl ?_
  refine x_aload_n 1 d_X10_carriesOut_20 rfl rfl ?_
  refine x_dup d_X10_carriesOut_21 rfl ?_
  refine x_getf 29 gf_X10_219 gM_0 rfl d_X10_carriesOut_22 ?_
  refine x_iconst (v := (1 : Int32)) d_X10_carriesOut_25 (by decide) ?_
  refine x_isub d_X10_carriesOut_26 ?_
  refine x_putf 29 (.int) pf_X10_219 gM_0 rfl rfl (Nat.le_of_ble_eq_true rfl) d_X10_carriesOut_27 ?_
  obtain ⟨s3, e_s3⟩ : ∃ z : RT, z = rS s1 29 ((s1.2.2 29) - (1 : Int32)) := ⟨_, rfl⟩
  have hQ := hQ s3 e_s3
  refine X.world (w2 := put w a 22 (shM a s3)) (by rw [e_s3]; exact sM_0_29) ?_
  refine x_aload_n 1 d_X10_carriesOut_30 rfl rfl ?_
  refine x_getf 27 gf_X10_68 gM_0 rfl d_X10_carriesOut_31 ?_
  refine x_aload_n 1 d_X10_carriesOut_34 rfl rfl ?_
  refine x_getf 29 gf_X10_219 gM_0 rfl d_X10_carriesOut_35 ?_
  have hN := hQ.1
  have hQ := hQ.2
  refine x_lald gM_20 hN d_X10_carriesOut_38 ?_
  refine x_topl (fun x4 e_x4 => ?_)
  have hQ := hQ x4 e_x4
  refine x_lstore_n (lv2 := [(2, .long x4), (1, .int x2), (0, .ref a)]) d_X10_carriesOut_39 rfl (by decide) rfl ?_
  refine x_aload_n 2 d_X10_carriesOut_40 rfl rfl ?_
  refine x_getf 27 gf_X10_68 gM_0 rfl d_X10_carriesOut_41 ?_
  refine x_aload_n 2 d_X10_carriesOut_44 rfl rfl ?_
  refine x_getf 29 gf_X10_219 gM_0 rfl d_X10_carriesOut_45 ?_
  refine x_iconst (v := (1 : Int32)) d_X10_carriesOut_48 (by decide) ?_
  refine x_isub d_X10_carriesOut_49 ?_
  have hN := hQ.1
  have hQ := hQ.2
  refine x_lald gM_20 hN d_X10_carriesOut_50 ?_
  refine x_topl (fun x5 e_x5 => ?_)
  have hQ := hQ x5 e_x5
  refine x_lstore (lv2 := [(4, .long x5), (2, .long x4), (1, .int x2), (0, .ref a)]) d_X10_carriesOut_51 (by decide) rfl ?_
  refine x_iload_n 2 d_X10_carriesOut_53 rfl rfl ?_
  refine x_bipush (v := (43 : Int32)) d_X10_carriesOut_54 (by decide) ?_
  refine x_icmp_ne (tgt := 66) d_X10_carriesOut_56 (by decide) (fun c_56_6 => ?_) (fun c_56_6 => ?_)
  · have hQ := hQ.1 c_56_6
    refine x_iload_n 2 d_X10_carriesOut_66 rfl rfl ?_
    refine x_bipush (v := (45 : Int32)) d_X10_carriesOut_67 (by decide) ?_
    refine x_icmp_ne (tgt := 79) d_X10_carriesOut_69 (by decide) (fun c_69_7 => ?_) (fun c_69_7 => ?_)
    · have hQ := hQ.1 c_69_7
      refine x_iload_n 2 d_X10_carriesOut_79 rfl rfl ?_
      refine x_bipush (v := (42 : Int32)) d_X10_carriesOut_80 (by decide) ?_
      refine x_icmp_ne (tgt := 96) d_X10_carriesOut_82 (by decide) (fun c_82_8 => ?_) (fun c_82_8 => ?_)
      · have hQ := hQ.1 c_82_8
        refine x_lload_n 1 d_X10_carriesOut_96 rfl rfl ?_
        refine x_lconst (v := (0 : Int64)) d_X10_carriesOut_97 (by decide) ?_
        refine x_lcmp d_X10_carriesOut_98 ?_
        refine x_if_ne (tgt := 106) d_X10_carriesOut_99 (by decide) (fun c_99_9 => ?_) (fun c_99_9 => ?_)
        · have hQ := hQ.1 c_99_9
          refine x_lload 0 d_X10_carriesOut_106 rfl ?_
          refine x_ldc2 (v := (1000 : Int64)) kc_X10_176 d_X10_carriesOut_108 ?_
          refine x_lmul d_X10_carriesOut_111 ?_
          refine x_lload_n 1 d_X10_carriesOut_112 rfl rfl ?_
          have hN := hQ.1
          have hQ := hQ.2
          refine x_ldiv d_X10_carriesOut_113 hN ?_
          refine x_sub [3] (lv2 := [(0, .ref a)]) rfl ?_
          exact jt_X10_carriesOut_114 hd ((x5 * (1000 : Int64)) / x4) s3 hQ
        · have hQ := hQ.2 c_99_9
          refine x_lconst (v := (0 : Int64)) d_X10_carriesOut_102 (by decide) ?_
          refine x_goto (tgt := 114) d_X10_carriesOut_103 (by decide) ?_
          refine x_sub [3] (lv2 := [(0, .ref a)]) rfl ?_
          exact jt_X10_carriesOut_114 hd (0 : Int64) s3 hQ
      · have hQ := hQ.2 c_82_8
        refine x_lload 0 d_X10_carriesOut_85 rfl ?_
        refine x_lload_n 1 d_X10_carriesOut_87 rfl rfl ?_
        refine x_lmul d_X10_carriesOut_88 ?_
        refine x_ldc2 (v := (1000 : Int64)) kc_X10_176 d_X10_carriesOut_89 ?_
        refine x_ldiv d_X10_carriesOut_92 (by decide) ?_
        refine x_goto (tgt := 114) d_X10_carriesOut_93 (by decide) ?_
        refine x_sub [3] (lv2 := [(0, .ref a)]) rfl ?_
        exact jt_X10_carriesOut_114 hd ((x5 * x4) / (1000 : Int64)) s3 hQ
    · have hQ := hQ.2 c_69_7
      refine x_lload 0 d_X10_carriesOut_72 rfl ?_
      refine x_lload_n 1 d_X10_carriesOut_74 rfl rfl ?_
      refine x_lsub d_X10_carriesOut_75 ?_
      refine x_goto (tgt := 114) d_X10_carriesOut_76 (by decide) ?_
      refine x_sub [3] (lv2 := [(0, .ref a)]) rfl ?_
      exact jt_X10_carriesOut_114 hd (x5 - x4) s3 hQ
  · have hQ := hQ.2 c_56_6
    refine x_lload 0 d_X10_carriesOut_59 rfl ?_
    refine x_lload_n 1 d_X10_carriesOut_61 rfl rfl ?_
    refine x_ladd d_X10_carriesOut_62 ?_
    refine x_goto (tgt := 114) d_X10_carriesOut_63 (by decide) ?_
    refine x_sub [3] (lv2 := [(0, .ref a)]) rfl ?_
    exact jt_X10_carriesOut_114 hd (x5 + x4) s3 hQ
def lp_X10_carriesAll_0 (a0 : Int32) (K : RT → Prop) : Nat → RT → Prop
  | 0, _ => False
  | n + 1, y_0 => (((y_0.2.2 30) ≤ (0 : Int32) → K y_0) ∧ (¬ (y_0.2.2 30) ≤ (0 : Int32) → vp_in ((y_0.2.2 30) - (1 : Int32)) 160 ∧ wp_X10_rank (y_0.1 21 ((y_0.2.2 30) - (1 : Int32)).toNatClampNeg) (fun (r2 : Int32) => ((r2 < a0 → K y_0) ∧ (¬ r2 < a0 → wp_X10_carriesOut y_0 (fun (s4 : RT) => lp_X10_carriesAll_0 a0 K n s4))))))
set_option maxHeartbeats 4000000 in
theorem jt_X10_carriesAll_0 {G : GX} {l : Launch} {d : Nat} {w : HW} {a : Nat} {a0 : Int32} {K : RT → Prop} (hd : 2 ≤ d) : ∀ (n : Nat) (y_0 : RT), lp_X10_carriesAll_0 a0 K n y_0 → X G l m_X10_carriesAll d 0 0 0 0 0 [(0, .ref a), (1, .int a0)] [] (put w a 22 (shM a y_0)) (fun r w2 => ∃ (z0 : RT), r = none ∧ w2 = put w a 22 (shM a z0) ∧ K z0) := by
  intro n
  induction n with
  | zero =>
    intro y_0 hQ
    exact hQ.elim
  | succ n ih =>
    intro y_0 hQ
    refine x_aload_n 0 d_X10_carriesAll_0 rfl rfl ?_
    refine x_getf 30 gf_X10_216 gM_0 rfl d_X10_carriesAll_1 ?_
    refine x_if_le (tgt := 32) d_X10_carriesAll_4 (by decide) (fun c_4_1 => ?_) (fun c_4_1 => ?_)
    · have hQ := hQ.1 c_4_1
      exact x_vret (retV d_X10_carriesAll_32 rfl) ⟨_, rfl, rfl, hQ⟩
    · have hQ := hQ.2 c_4_1
      refine x_aload_n 0 d_X10_carriesAll_7 rfl rfl ?_
      refine x_getf 28 gf_X10_71 gM_0 rfl d_X10_carriesAll_8 ?_
      refine x_aload_n 0 d_X10_carriesAll_11 rfl rfl ?_
      refine x_getf 30 gf_X10_216 gM_0 rfl d_X10_carriesAll_12 ?_
      refine x_iconst (v := (1 : Int32)) d_X10_carriesAll_15 (by decide) ?_
      refine x_isub d_X10_carriesAll_16 ?_
      have hN := hQ.1
      have hQ := hQ.2
      refine x_iald gM_21 hN d_X10_carriesAll_17 ?_
      refine x_invS (rest := []) (d' := d - 1) (mc' := 0) (ms' := 0) [.int (y_0.1 21 ((y_0.2.2 30) - (1 : Int32)).toNatClampNeg)] k_X10_rank lk_X10_222 rfl rfl (Nat.le_of_ble_eq_true rfl) (by omega) (Nat.le_refl _) (Nat.le_refl _) d_X10_carriesAll_18 ((sp_X10_rank (d := d - 1) (by omega) hQ).mono (fun r w2 hr => ?_))
      obtain ⟨r2, rfl, rfl, hQ⟩ := hr
      refine x_iload_n 1 d_X10_carriesAll_21 rfl rfl ?_
      refine x_icmp_lt (tgt := 32) d_X10_carriesAll_22 (by decide) (fun c_22_3 => ?_) (fun c_22_3 => ?_)
      · have hQ := hQ.1 c_22_3
        exact x_vret (retV d_X10_carriesAll_32 rfl) ⟨_, rfl, rfl, hQ⟩
      · have hQ := hQ.2 c_22_3
        refine x_aload_n 0 d_X10_carriesAll_25 rfl rfl ?_
        refine x_invV (rest := []) (d' := d - 1) (mc' := 0) (ms' := 0) [] k_X10_carriesOut lk_X10_225 gM_0 rfl rfl rfl (Nat.le_of_ble_eq_true rfl) (by omega) (Nat.le_refl _) (Nat.le_refl _) d_X10_carriesAll_26 ((sp_X10_carriesOut (d := d - 1) (by omega) hQ).mono (fun r w2 hr => ?_))
        obtain ⟨s4, rfl, rfl, hQ⟩ := hr
        refine x_goto (tgt := 0) d_X10_carriesAll_29 (by decide) ?_
        refine x_sub [0, 1] (lv2 := [(0, .ref a), (1, .int a0)]) rfl ?_
        exact ih s4 hQ
def wp_X10_carriesAll (s : RT) (a0 : Int32) (K : RT → Prop) : Prop := ∃ m : Nat, lp_X10_carriesAll_0 a0 K m s
set_option maxHeartbeats 4000000 in
theorem sp_X10_carriesAll {G : GX} {l : Launch} {d : Nat} {w : HW} {a : Nat} {s : RT} {a0 : Int32} {K : RT → Prop} (hd : 2 ≤ d) (hQ : wp_X10_carriesAll s a0 K) : Sp G l m_X10_carriesAll d 0 0 [.ref a, .int a0] (put w a 22 (shM a s)) (fun r w2 => ∃ (z0 : RT), r = none ∧ w2 = put w a 22 (shM a z0) ∧ K z0) := by
  refine Sp.ofX k_X10_carriesAll.1.1 (Nat.le_of_ble_eq_true rfl) ?_
  refine X.lv (lv2 := [(0, .ref a), (1, .int a0)]) rfl ?_
  refine x_sub [0, 1] (lv2 := [(0, .ref a), (1, .int a0)]) rfl ?_
  obtain ⟨m, hQ⟩ := hQ
  exact jt_X10_carriesAll_0 hd m s hQ
def lp_X10_negates_0 (K : RT → Prop) : Nat → RT → Prop
  | 0, _ => False
  | n + 1, y_0 => (((y_0.2.2 30) ≤ (0 : Int32) → K y_0) ∧ (¬ (y_0.2.2 30) ≤ (0 : Int32) → vp_in ((y_0.2.2 30) - (1 : Int32)) 160 ∧ ((¬ (y_0.1 21 ((y_0.2.2 30) - (1 : Int32)).toNatClampNeg) = (126 : Int32) → K y_0) ∧ ((y_0.1 21 ((y_0.2.2 30) - (1 : Int32)).toNatClampNeg) = (126 : Int32) → ∀ s3 : RT, s3 = rS y_0 30 ((y_0.2.2 30) - (1 : Int32)) → vp_in ((s3.2.2 29) - (1 : Int32)) 80 ∧ wp_X10_held (-(s3.2.1 20 ((s3.2.2 29) - (1 : Int32)).toNatClampNeg)) (fun (r4 : Int64) => vp_in ((s3.2.2 29) - (1 : Int32)) 80 ∧ ∀ s5 : RT, s5 = rL s3 20 (vp_updL (s3.2.1 20) ((s3.2.2 29) - (1 : Int32)).toNatClampNeg r4) → lp_X10_negates_0  K n s5)))))
set_option maxHeartbeats 4000000 in
theorem jt_X10_negates_0 {G : GX} {l : Launch} {d : Nat} {w : HW} {a : Nat} {K : RT → Prop} (hd : 1 ≤ d) : ∀ (n : Nat) (y_0 : RT), lp_X10_negates_0 K n y_0 → X G l m_X10_negates d 0 0 0 0 0 [(0, .ref a)] [] (put w a 22 (shM a y_0)) (fun r w2 => ∃ (z0 : RT), r = none ∧ w2 = put w a 22 (shM a z0) ∧ K z0) := by
  intro n
  induction n with
  | zero =>
    intro y_0 hQ
    exact hQ.elim
  | succ n ih =>
    intro y_0 hQ
    refine x_aload_n 0 d_X10_negates_0 rfl rfl ?_
    refine x_getf 30 gf_X10_216 gM_0 rfl d_X10_negates_1 ?_
    refine x_if_le (tgt := 62) d_X10_negates_4 (by decide) (fun c_4_1 => ?_) (fun c_4_1 => ?_)
    · have hQ := hQ.1 c_4_1
      exact x_vret (retV d_X10_negates_62 rfl) ⟨_, rfl, rfl, hQ⟩
    · have hQ := hQ.2 c_4_1
      refine x_aload_n 0 d_X10_negates_7 rfl rfl ?_
      refine x_getf 28 gf_X10_71 gM_0 rfl d_X10_negates_8 ?_
      refine x_aload_n 0 d_X10_negates_11 rfl rfl ?_
      refine x_getf 30 gf_X10_216 gM_0 rfl d_X10_negates_12 ?_
      refine x_iconst (v := (1 : Int32)) d_X10_negates_15 (by decide) ?_
      refine x_isub d_X10_negates_16 ?_
      have hN := hQ.1
      have hQ := hQ.2
      refine x_iald gM_21 hN d_X10_negates_17 ?_
      refine x_bipush (v := (126 : Int32)) d_X10_negates_18 (by decide) ?_
      refine x_icmp_ne (tgt := 62) d_X10_negates_20 (by decide) (fun c_20_2 => ?_) (fun c_20_2 => ?_)
      · have hQ := hQ.1 c_20_2
        exact x_vret (retV d_X10_negates_62 rfl) ⟨_, rfl, rfl, hQ⟩
      · have hQ := hQ.2 c_20_2
        refine x_aload_n 0 d_X10_negates_23 rfl rfl ?_
        refine x_dup d_X10_negates_24 rfl ?_
        refine x_getf 30 gf_X10_216 gM_0 rfl d_X10_negates_25 ?_
        refine x_iconst (v := (1 : Int32)) d_X10_negates_28 (by decide) ?_
        refine x_isub d_X10_negates_29 ?_
        refine x_putf 30 (.int) pf_X10_216 gM_0 rfl rfl (Nat.le_of_ble_eq_true rfl) d_X10_negates_30 ?_
        obtain ⟨s3, e_s3⟩ : ∃ z : RT, z = rS y_0 30 ((y_0.2.2 30) - (1 : Int32)) := ⟨_, rfl⟩
        have hQ := hQ s3 e_s3
        refine X.world (w2 := put w a 22 (shM a s3)) (by rw [e_s3]; exact sM_0_30) ?_
        refine x_aload_n 0 d_X10_negates_33 rfl rfl ?_
        refine x_getf 27 gf_X10_68 gM_0 rfl d_X10_negates_34 ?_
        refine x_aload_n 0 d_X10_negates_37 rfl rfl ?_
        refine x_getf 29 gf_X10_219 gM_0 rfl d_X10_negates_38 ?_
        refine x_iconst (v := (1 : Int32)) d_X10_negates_41 (by decide) ?_
        refine x_isub d_X10_negates_42 ?_
        refine x_aload_n 0 d_X10_negates_43 rfl rfl ?_
        refine x_getf 27 gf_X10_68 gM_0 rfl d_X10_negates_44 ?_
        refine x_aload_n 0 d_X10_negates_47 rfl rfl ?_
        refine x_getf 29 gf_X10_219 gM_0 rfl d_X10_negates_48 ?_
        refine x_iconst (v := (1 : Int32)) d_X10_negates_51 (by decide) ?_
        refine x_isub d_X10_negates_52 ?_
        have hN := hQ.1
        have hQ := hQ.2
        refine x_lald gM_20 hN d_X10_negates_53 ?_
        refine x_lneg d_X10_negates_54 ?_
        refine x_invS (rest := [.int ((s3.2.2 29) - (1 : Int32)), .ref (a + 20)]) (d' := d - 1) (mc' := 0) (ms' := 0) [.long (-(s3.2.1 20 ((s3.2.2 29) - (1 : Int32)).toNatClampNeg))] k_X10_held lk_X10_191 rfl rfl (Nat.le_of_ble_eq_true rfl) (by omega) (Nat.le_refl _) (Nat.le_refl _) d_X10_negates_55 ((sp_X10_held (d := d - 1) (by omega) hQ).mono (fun r w2 hr => ?_))
        obtain ⟨r4, rfl, rfl, hQ⟩ := hr
        have hN := hQ.1
        have hQ := hQ.2
        refine x_last gM_20 hN d_X10_negates_58 ?_
        obtain ⟨s5, e_s5⟩ : ∃ z : RT, z = rL s3 20 (vp_updL (s3.2.1 20) ((s3.2.2 29) - (1 : Int32)).toNatClampNeg r4) := ⟨_, rfl⟩
        have hQ := hQ s5 e_s5
        refine X.world (w2 := put w a 22 (shM a s5)) (by rw [e_s5]; exact sM_20) ?_
        refine x_goto (tgt := 0) d_X10_negates_59 (by decide) ?_
        refine x_sub [0] (lv2 := [(0, .ref a)]) rfl ?_
        exact ih s5 hQ
def wp_X10_negates (s : RT) (K : RT → Prop) : Prop := ∃ m : Nat, lp_X10_negates_0  K m s
set_option maxHeartbeats 4000000 in
theorem sp_X10_negates {G : GX} {l : Launch} {d : Nat} {w : HW} {a : Nat} {s : RT} {K : RT → Prop} (hd : 1 ≤ d) (hQ : wp_X10_negates s K) : Sp G l m_X10_negates d 0 0 [.ref a] (put w a 22 (shM a s)) (fun r w2 => ∃ (z0 : RT), r = none ∧ w2 = put w a 22 (shM a z0) ∧ K z0) := by
  refine Sp.ofX k_X10_negates.1.1 (Nat.le_of_ble_eq_true rfl) ?_
  refine X.lv (lv2 := [(0, .ref a)]) rfl ?_
  refine x_sub [0] (lv2 := [(0, .ref a)]) rfl ?_
  obtain ⟨m, hQ⟩ := hQ
  exact jt_X10_negates_0 hd m s hQ
def wp_X10_puts (s : RT) (a0 : Int64) (K : RT → Prop) : Prop := vp_in (s.2.2 29) 80 ∧ ∀ s1 : RT, s1 = rL s 20 (vp_updL (s.2.1 20) (s.2.2 29).toNatClampNeg a0) → ∀ s2 : RT, s2 = rS s1 29 ((s1.2.2 29) + (1 : Int32)) → wp_X10_negates s2 (fun (s3 : RT) => K s3)
set_option maxHeartbeats 4000000 in
theorem sp_X10_puts {G : GX} {l : Launch} {d : Nat} {w : HW} {a : Nat} {s : RT} {a0 : Int64} {K : RT → Prop} (hd : 2 ≤ d) (hQ : wp_X10_puts s a0 K) : Sp G l m_X10_puts d 0 0 [.ref a, .long a0] (put w a 22 (shM a s)) (fun r w2 => ∃ (z0 : RT), r = none ∧ w2 = put w a 22 (shM a z0) ∧ K z0) := by
  refine Sp.ofX k_X10_puts.1.1 (Nat.le_of_ble_eq_true rfl) ?_
  refine X.lv (lv2 := [(0, .ref a), (1, .long a0)]) rfl ?_
  refine x_aload_n 0 d_X10_puts_0 rfl rfl ?_
  refine x_getf 27 gf_X10_68 gM_0 rfl d_X10_puts_1 ?_
  refine x_aload_n 0 d_X10_puts_4 rfl rfl ?_
  refine x_getf 29 gf_X10_219 gM_0 rfl d_X10_puts_5 ?_
  refine x_lload_n 1 d_X10_puts_8 rfl rfl ?_
  have hN := hQ.1
  have hQ := hQ.2
  refine x_last gM_20 hN d_X10_puts_9 ?_
  obtain ⟨s1, e_s1⟩ : ∃ z : RT, z = rL s 20 (vp_updL (s.2.1 20) (s.2.2 29).toNatClampNeg a0) := ⟨_, rfl⟩
  have hQ := hQ s1 e_s1
  refine X.world (w2 := put w a 22 (shM a s1)) (by rw [e_s1]; exact sM_20) ?_
  refine x_aload_n 0 d_X10_puts_10 rfl rfl ?_
  refine x_dup d_X10_puts_11 rfl ?_
  refine x_getf 29 gf_X10_219 gM_0 rfl d_X10_puts_12 ?_
  refine x_iconst (v := (1 : Int32)) d_X10_puts_15 (by decide) ?_
  refine x_iadd d_X10_puts_16 ?_
  refine x_putf 29 (.int) pf_X10_219 gM_0 rfl rfl (Nat.le_of_ble_eq_true rfl) d_X10_puts_17 ?_
  obtain ⟨s2, e_s2⟩ : ∃ z : RT, z = rS s1 29 ((s1.2.2 29) + (1 : Int32)) := ⟨_, rfl⟩
  have hQ := hQ s2 e_s2
  refine X.world (w2 := put w a 22 (shM a s2)) (by rw [e_s2]; exact sM_0_29) ?_
  refine x_aload_n 0 d_X10_puts_20 rfl rfl ?_
  refine x_invV (rest := []) (d' := d - 1) (mc' := 0) (ms' := 0) [] k_X10_negates lk_X10_228 gM_0 rfl rfl rfl (Nat.le_of_ble_eq_true rfl) (by omega) (Nat.le_refl _) (Nat.le_refl _) d_X10_puts_21 ((sp_X10_negates (d := d - 1) (by omega) hQ).mono (fun r w2 hr => ?_))
  obtain ⟨s3, rfl, rfl, hQ⟩ := hr
  exact x_vret (retV d_X10_puts_24 rfl) ⟨_, rfl, rfl, hQ⟩
def wp_X10_putsSign (s : RT) (a0 : Int32) (K : RT → Prop) : Prop := vp_in (s.2.2 30) 160 ∧ ∀ s1 : RT, s1 = rI s 21 (upd (s.1 21) (s.2.2 30).toNatClampNeg a0) → ∀ s2 : RT, s2 = rS s1 30 ((s1.2.2 30) + (1 : Int32)) → K s2
set_option maxHeartbeats 4000000 in
theorem sp_X10_putsSign {G : GX} {l : Launch} {d : Nat} {w : HW} {a : Nat} {s : RT} {a0 : Int32} {K : RT → Prop} (hd : 0 ≤ d) (hQ : wp_X10_putsSign s a0 K) : Sp G l m_X10_putsSign d 0 0 [.ref a, .int a0] (put w a 22 (shM a s)) (fun r w2 => ∃ (z0 : RT), r = none ∧ w2 = put w a 22 (shM a z0) ∧ K z0) := by
  refine Sp.ofX k_X10_putsSign.1.1 (Nat.le_of_ble_eq_true rfl) ?_
  refine X.lv (lv2 := [(0, .ref a), (1, .int a0)]) rfl ?_
  refine x_aload_n 0 d_X10_putsSign_0 rfl rfl ?_
  refine x_getf 28 gf_X10_71 gM_0 rfl d_X10_putsSign_1 ?_
  refine x_aload_n 0 d_X10_putsSign_4 rfl rfl ?_
  refine x_getf 30 gf_X10_216 gM_0 rfl d_X10_putsSign_5 ?_
  refine x_iload_n 1 d_X10_putsSign_8 rfl rfl ?_
  have hN := hQ.1
  have hQ := hQ.2
  refine x_iast gM_21 hN d_X10_putsSign_9 ?_
  obtain ⟨s1, e_s1⟩ : ∃ z : RT, z = rI s 21 (upd (s.1 21) (s.2.2 30).toNatClampNeg a0) := ⟨_, rfl⟩
  have hQ := hQ s1 e_s1
  refine X.world (w2 := put w a 22 (shM a s1)) (by rw [e_s1]; exact sM_21) ?_
  refine x_aload_n 0 d_X10_putsSign_10 rfl rfl ?_
  refine x_dup d_X10_putsSign_11 rfl ?_
  refine x_getf 30 gf_X10_216 gM_0 rfl d_X10_putsSign_12 ?_
  refine x_iconst (v := (1 : Int32)) d_X10_putsSign_15 (by decide) ?_
  refine x_iadd d_X10_putsSign_16 ?_
  refine x_putf 30 (.int) pf_X10_216 gM_0 rfl rfl (Nat.le_of_ble_eq_true rfl) d_X10_putsSign_17 ?_
  obtain ⟨s2, e_s2⟩ : ∃ z : RT, z = rS s1 30 ((s1.2.2 30) + (1 : Int32)) := ⟨_, rfl⟩
  have hQ := hQ s2 e_s2
  refine X.world (w2 := put w a 22 (shM a s2)) (by rw [e_s2]; exact sM_0_30) ?_
  exact x_vret (retV d_X10_putsSign_20 rfl) ⟨_, rfl, rfl, hQ⟩
def jp_X10_shuts_110 (K : RT → Prop) (x_1 : Int64) (x_3 : Int64) (t_0 : Int32) (y_0 : RT) : Prop := ((t_0 = (0 : Int32) → vp_in ((y_0.2.2 29) - (1 : Int32)) 80 ∧ ∀ s12 : RT, s12 = rL y_0 20 (vp_updL (y_0.2.1 20) ((y_0.2.2 29) - (1 : Int32)).toNatClampNeg x_1) → wp_X10_negates s12 (fun (s13 : RT) => K s13)) ∧ (¬ t_0 = (0 : Int32) → vp_in ((y_0.2.2 29) - (1 : Int32)) 80 ∧ ∀ s14 : RT, s14 = rL y_0 20 (vp_updL (y_0.2.1 20) ((y_0.2.2 29) - (1 : Int32)).toNatClampNeg x_3) → wp_X10_negates s14 (fun (s15 : RT) => K s15)))
set_option maxHeartbeats 4000000 in
theorem jt_X10_shuts_110 {G : GX} {l : Launch} {d : Nat} {w : HW} {a : Nat} {K : RT → Prop} (hd : 3 ≤ d) (x_1 : Int64) (x_3 : Int64) (t_0 : Int32) (y_0 : RT) (hQ : jp_X10_shuts_110 K x_1 x_3 t_0 y_0) : X G l m_X10_shuts d 0 0 0 0 110 [(0, .ref a), (1, .long x_1), (3, .long x_3)] [.int t_0] (put w a 22 (shM a y_0)) (fun r w2 => ∃ (z0 : RT), r = none ∧ w2 = put w a 22 (shM a z0) ∧ K z0) := by
  refine x_istore (lv2 := [(5, .int t_0), (0, .ref a), (1, .long x_1), (3, .long x_3)]) d_X10_shuts_110 (by decide) rfl ?_
  refine x_aload_n 1 d_X10_shuts_112 rfl rfl ?_
  refine x_getf 27 gf_X10_68 gM_0 rfl d_X10_shuts_113 ?_
  refine x_aload_n 1 d_X10_shuts_116 rfl rfl ?_
  refine x_getf 29 gf_X10_219 gM_0 rfl d_X10_shuts_117 ?_
  refine x_iconst (v := (1 : Int32)) d_X10_shuts_120 (by decide) ?_
  refine x_isub d_X10_shuts_121 ?_
  refine x_iload 0 d_X10_shuts_122 rfl ?_
  refine x_if_eq (tgt := 131) d_X10_shuts_124 (by decide) (fun c_124_11 => ?_) (fun c_124_11 => ?_)
  · have hQ := hQ.1 c_124_11
    refine x_lload_n 2 d_X10_shuts_131 rfl rfl ?_
    have hN := hQ.1
    have hQ := hQ.2
    refine x_last gM_20 hN d_X10_shuts_132 ?_
    obtain ⟨s12, e_s12⟩ : ∃ z : RT, z = rL y_0 20 (vp_updL (y_0.2.1 20) ((y_0.2.2 29) - (1 : Int32)).toNatClampNeg x_1) := ⟨_, rfl⟩
    have hQ := hQ s12 e_s12
    refine X.world (w2 := put w a 22 (shM a s12)) (by rw [e_s12]; exact sM_20) ?_
    refine x_aload_n 1 d_X10_shuts_133 rfl rfl ?_
    refine x_invV (rest := []) (d' := d - 1) (mc' := 0) (ms' := 0) [] k_X10_negates lk_X10_228 gM_0 rfl rfl rfl (Nat.le_of_ble_eq_true rfl) (by omega) (Nat.le_refl _) (Nat.le_refl _) d_X10_shuts_134 ((sp_X10_negates (d := d - 1) (by omega) hQ).mono (fun r w2 hr => ?_))
    obtain ⟨s13, rfl, rfl, hQ⟩ := hr
    exact x_vret (retV d_X10_shuts_137 rfl) ⟨_, rfl, rfl, hQ⟩
  · have hQ := hQ.2 c_124_11
    refine x_lload_n 3 d_X10_shuts_127 rfl rfl ?_
    refine x_goto (tgt := 132) d_X10_shuts_128 (by decide) ?_
    have hN := hQ.1
    have hQ := hQ.2
    refine x_last gM_20 hN d_X10_shuts_132 ?_
    obtain ⟨s14, e_s14⟩ : ∃ z : RT, z = rL y_0 20 (vp_updL (y_0.2.1 20) ((y_0.2.2 29) - (1 : Int32)).toNatClampNeg x_3) := ⟨_, rfl⟩
    have hQ := hQ s14 e_s14
    refine X.world (w2 := put w a 22 (shM a s14)) (by rw [e_s14]; exact sM_20) ?_
    refine x_aload_n 1 d_X10_shuts_133 rfl rfl ?_
    refine x_invV (rest := []) (d' := d - 1) (mc' := 0) (ms' := 0) [] k_X10_negates lk_X10_228 gM_0 rfl rfl rfl (Nat.le_of_ble_eq_true rfl) (by omega) (Nat.le_refl _) (Nat.le_refl _) d_X10_shuts_134 ((sp_X10_negates (d := d - 1) (by omega) hQ).mono (fun r w2 hr => ?_))
    obtain ⟨s15, rfl, rfl, hQ⟩ := hr
    exact x_vret (retV d_X10_shuts_137 rfl) ⟨_, rfl, rfl, hQ⟩
def wp_X10_shuts (s : RT) (K : RT → Prop) : Prop := wp_X10_carriesAll s (1 : Int32) (fun (s1 : RT) => ∀ s2 : RT, s2 = rS s1 30 ((s1.2.2 30) - (1 : Int32)) → vp_in (s2.2.2 30) 160 ∧ ((¬ (s2.1 21 (s2.2.2 30).toNatClampNeg) = (44 : Int32) → wp_X10_negates s2 (fun (s4 : RT) => K s4)) ∧ ((s2.1 21 (s2.2.2 30).toNatClampNeg) = (44 : Int32) → ∀ s5 : RT, s5 = rS s2 30 ((s2.2.2 30) - (1 : Int32)) → ∀ s6 : RT, s6 = rS s5 29 ((s5.2.2 29) - (1 : Int32)) → vp_in (s6.2.2 29) 80 ∧ ∀ x7 : Int64, x7 = (s6.2.1 20 (s6.2.2 29).toNatClampNeg) → vp_in ((s6.2.2 29) - (1 : Int32)) 80 ∧ ∀ x8 : Int64, x8 = (s6.2.1 20 ((s6.2.2 29) - (1 : Int32)).toNatClampNeg) → vp_in (s6.2.2 30) 160 ∧ ((¬ (s6.1 21 (s6.2.2 30).toNatClampNeg) = (105 : Int32) → (((lg_cmp x8 x7) ≤ (0 : Int32) → jp_X10_shuts_110  K x7 x8 (0 : Int32) s6) ∧ (¬ (lg_cmp x8 x7) ≤ (0 : Int32) → jp_X10_shuts_110  K x7 x8 (1 : Int32) s6))) ∧ ((s6.1 21 (s6.2.2 30).toNatClampNeg) = (105 : Int32) → (((0 : Int32) ≤ (lg_cmp x8 x7) → jp_X10_shuts_110  K x7 x8 (0 : Int32) s6) ∧ (¬ (0 : Int32) ≤ (lg_cmp x8 x7) → jp_X10_shuts_110  K x7 x8 (1 : Int32) s6)))))))
set_option maxHeartbeats 4000000 in
theorem sp_X10_shuts {G : GX} {l : Launch} {d : Nat} {w : HW} {a : Nat} {s : RT} {K : RT → Prop} (hd : 3 ≤ d) (hQ : wp_X10_shuts s K) : Sp G l m_X10_shuts d 0 0 [.ref a] (put w a 22 (shM a s)) (fun r w2 => ∃ (z0 : RT), r = none ∧ w2 = put w a 22 (shM a z0) ∧ K z0) := by
  refine Sp.ofX k_X10_shuts.1.1 (Nat.le_of_ble_eq_true rfl) ?_
  refine X.lv (lv2 := [(0, .ref a)]) rfl ?_
  refine x_aload_n 0 d_X10_shuts_0 rfl rfl ?_
  refine x_iconst (v := (1 : Int32)) d_X10_shuts_1 (by decide) ?_
  refine x_invV (rest := []) (d' := d - 1) (mc' := 0) (ms' := 0) [.int (1 : Int32)] k_X10_carriesAll lk_X10_231 gM_0 rfl rfl rfl (Nat.le_of_ble_eq_true rfl) (by omega) (Nat.le_refl _) (Nat.le_refl _) d_X10_shuts_2 ((sp_X10_carriesAll (d := d - 1) (by omega) hQ).mono (fun r w2 hr => ?_))
  obtain ⟨s1, rfl, rfl, hQ⟩ := hr
  refine x_aload_n 0 d_X10_shuts_5 rfl rfl ?_
  refine x_dup d_X10_shuts_6 rfl ?_
  refine x_getf 30 gf_X10_216 gM_0 rfl d_X10_shuts_7 ?_
  refine x_iconst (v := (1 : Int32)) d_X10_shuts_10 (by decide) ?_
  refine x_isub d_X10_shuts_11 ?_
  refine x_putf 30 (.int) pf_X10_216 gM_0 rfl rfl (Nat.le_of_ble_eq_true rfl) d_X10_shuts_12 ?_
  obtain ⟨s2, e_s2⟩ : ∃ z : RT, z = rS s1 30 ((s1.2.2 30) - (1 : Int32)) := ⟨_, rfl⟩
  have hQ := hQ s2 e_s2
  refine X.world (w2 := put w a 22 (shM a s2)) (by rw [e_s2]; exact sM_0_30) ?_
  refine x_aload_n 0 d_X10_shuts_15 rfl rfl ?_
  refine x_getf 28 gf_X10_71 gM_0 rfl d_X10_shuts_16 ?_
  refine x_aload_n 0 d_X10_shuts_19 rfl rfl ?_
  refine x_getf 30 gf_X10_216 gM_0 rfl d_X10_shuts_20 ?_
  have hN := hQ.1
  have hQ := hQ.2
  refine x_iald gM_21 hN d_X10_shuts_23 ?_
  refine x_bipush (v := (44 : Int32)) d_X10_shuts_24 (by decide) ?_
  refine x_icmp_ne (tgt := 133) d_X10_shuts_26 (by decide) (fun c_26_3 => ?_) (fun c_26_3 => ?_)
  · have hQ := hQ.1 c_26_3
    refine x_aload_n 0 d_X10_shuts_133 rfl rfl ?_
    refine x_invV (rest := []) (d' := d - 1) (mc' := 0) (ms' := 0) [] k_X10_negates lk_X10_228 gM_0 rfl rfl rfl (Nat.le_of_ble_eq_true rfl) (by omega) (Nat.le_refl _) (Nat.le_refl _) d_X10_shuts_134 ((sp_X10_negates (d := d - 1) (by omega) hQ).mono (fun r w2 hr => ?_))
    obtain ⟨s4, rfl, rfl, hQ⟩ := hr
    exact x_vret (retV d_X10_shuts_137 rfl) ⟨_, rfl, rfl, hQ⟩
  · have hQ := hQ.2 c_26_3
    refine x_aload_n 0 d_X10_shuts_29 rfl rfl ?_
    refine x_dup d_X10_shuts_30 rfl ?_
    refine x_getf 30 gf_X10_216 gM_0 rfl d_X10_shuts_31 ?_
    refine x_iconst (v := (1 : Int32)) d_X10_shuts_34 (by decide) ?_
    refine x_isub d_X10_shuts_35 ?_
    refine x_putf 30 (.int) pf_X10_216 gM_0 rfl rfl (Nat.le_of_ble_eq_true rfl) d_X10_shuts_36 ?_
    obtain ⟨s5, e_s5⟩ : ∃ z : RT, z = rS s2 30 ((s2.2.2 30) - (1 : Int32)) := ⟨_, rfl⟩
    have hQ := hQ s5 e_s5
    refine X.world (w2 := put w a 22 (shM a s5)) (by rw [e_s5]; exact sM_0_30) ?_
    refine x_aload_n 0 d_X10_shuts_39 rfl rfl ?_
    refine x_dup d_X10_shuts_40 rfl ?_
    refine x_getf 29 gf_X10_219 gM_0 rfl d_X10_shuts_41 ?_
    refine x_iconst (v := (1 : Int32)) d_X10_shuts_44 (by decide) ?_
    refine x_isub d_X10_shuts_45 ?_
    refine x_putf 29 (.int) pf_X10_219 gM_0 rfl rfl (Nat.le_of_ble_eq_true rfl) d_X10_shuts_46 ?_
    obtain ⟨s6, e_s6⟩ : ∃ z : RT, z = rS s5 29 ((s5.2.2 29) - (1 : Int32)) := ⟨_, rfl⟩
    have hQ := hQ s6 e_s6
    refine X.world (w2 := put w a 22 (shM a s6)) (by rw [e_s6]; exact sM_0_29) ?_
    refine x_aload_n 0 d_X10_shuts_49 rfl rfl ?_
    refine x_getf 27 gf_X10_68 gM_0 rfl d_X10_shuts_50 ?_
    refine x_aload_n 0 d_X10_shuts_53 rfl rfl ?_
    refine x_getf 29 gf_X10_219 gM_0 rfl d_X10_shuts_54 ?_
    have hN := hQ.1
    have hQ := hQ.2
    refine x_lald gM_20 hN d_X10_shuts_57 ?_
    refine x_topl (fun x7 e_x7 => ?_)
    have hQ := hQ x7 e_x7
    refine x_lstore_n (lv2 := [(1, .long x7), (0, .ref a)]) d_X10_shuts_58 rfl (by decide) rfl ?_
    refine x_aload_n 1 d_X10_shuts_59 rfl rfl ?_
    refine x_getf 27 gf_X10_68 gM_0 rfl d_X10_shuts_60 ?_
    refine x_aload_n 1 d_X10_shuts_63 rfl rfl ?_
    refine x_getf 29 gf_X10_219 gM_0 rfl d_X10_shuts_64 ?_
    refine x_iconst (v := (1 : Int32)) d_X10_shuts_67 (by decide) ?_
    refine x_isub d_X10_shuts_68 ?_
    have hN := hQ.1
    have hQ := hQ.2
    refine x_lald gM_20 hN d_X10_shuts_69 ?_
    refine x_topl (fun x8 e_x8 => ?_)
    have hQ := hQ x8 e_x8
    refine x_lstore_n (lv2 := [(3, .long x8), (1, .long x7), (0, .ref a)]) d_X10_shuts_70 rfl (by decide) rfl ?_
    refine x_aload_n 2 d_X10_shuts_71 rfl rfl ?_
    refine x_getf 28 gf_X10_71 gM_0 rfl d_X10_shuts_72 ?_
    refine x_aload_n 2 d_X10_shuts_75 rfl rfl ?_
    refine x_getf 30 gf_X10_216 gM_0 rfl d_X10_shuts_76 ?_
    have hN := hQ.1
    have hQ := hQ.2
    refine x_iald gM_21 hN d_X10_shuts_79 ?_
    refine x_bipush (v := (105 : Int32)) d_X10_shuts_80 (by decide) ?_
    refine x_icmp_ne (tgt := 99) d_X10_shuts_82 (by decide) (fun c_82_9 => ?_) (fun c_82_9 => ?_)
    · have hQ := hQ.1 c_82_9
      refine x_lload_n 0 d_X10_shuts_99 rfl rfl ?_
      refine x_lload_n 1 d_X10_shuts_100 rfl rfl ?_
      refine x_lcmp d_X10_shuts_101 ?_
      refine x_if_le (tgt := 109) d_X10_shuts_102 (by decide) (fun c_102_10 => ?_) (fun c_102_10 => ?_)
      · have hQ := hQ.1 c_102_10
        refine x_iconst (v := (0 : Int32)) d_X10_shuts_109 (by decide) ?_
        refine x_sub [2, 1, 0] (lv2 := [(0, .ref a), (1, .long x7), (3, .long x8)]) rfl ?_
        exact jt_X10_shuts_110 hd x7 x8 (0 : Int32) s6 hQ
      · have hQ := hQ.2 c_102_10
        refine x_iconst (v := (1 : Int32)) d_X10_shuts_105 (by decide) ?_
        refine x_goto (tgt := 110) d_X10_shuts_106 (by decide) ?_
        refine x_sub [2, 1, 0] (lv2 := [(0, .ref a), (1, .long x7), (3, .long x8)]) rfl ?_
        exact jt_X10_shuts_110 hd x7 x8 (1 : Int32) s6 hQ
    · have hQ := hQ.2 c_82_9
      refine x_lload_n 0 d_X10_shuts_85 rfl rfl ?_
      refine x_lload_n 1 d_X10_shuts_86 rfl rfl ?_
      refine x_lcmp d_X10_shuts_87 ?_
      refine x_if_ge (tgt := 95) d_X10_shuts_88 (by decide) (fun c_88_16 => ?_) (fun c_88_16 => ?_)
      · have hQ := hQ.1 c_88_16
        refine x_iconst (v := (0 : Int32)) d_X10_shuts_95 (by decide) ?_
        refine x_goto (tgt := 110) d_X10_shuts_96 (by decide) ?_
        refine x_sub [2, 1, 0] (lv2 := [(0, .ref a), (1, .long x7), (3, .long x8)]) rfl ?_
        exact jt_X10_shuts_110 hd x7 x8 (0 : Int32) s6 hQ
      · have hQ := hQ.2 c_88_16
        refine x_iconst (v := (1 : Int32)) d_X10_shuts_91 (by decide) ?_
        refine x_goto (tgt := 110) d_X10_shuts_92 (by decide) ?_
        refine x_sub [2, 1, 0] (lv2 := [(0, .ref a), (1, .long x7), (3, .long x8)]) rfl ?_
        exact jt_X10_shuts_110 hd x7 x8 (1 : Int32) s6 hQ
def jp_X10_numberAt_135 (s : RT) (a0 : Int32) (a1 : Int32) (K : Int64 → Prop) (k_65 : Int64 → Int32 → Int32 → Int32 → Prop) (x_5 : Int32) (x_6 : Int32) (x_7 : Int32) (t_0 : Int32) (t_1 : Int64) : Prop := ∀ x11 : Int64, x11 = t_1 + (t_0.toInt64) → ∀ x12 : Int32, x12 = x_7 + (1 : Int32) → k_65 x11 x_5 x_6 x12
set_option maxHeartbeats 4000000 in
theorem jt_X10_numberAt_135 {G : GX} {l : Launch} {d : Nat} {w : HW} {a : Nat} {s : RT} {a0 : Int32} {a1 : Int32} {K : Int64 → Prop} {k_65 : Int64 → Int32 → Int32 → Int32 → Prop} (hd : 2 ≤ d) (hk_65 : ∀ (x_3 : Int64) (x_5 : Int32) (x_6 : Int32) (x_7 : Int32), k_65 x_3 x_5 x_6 x_7 → X G l m_X10_numberAt d 0 0 0 0 65 [(0, .ref a), (1, .int a0), (3, .long x_3), (5, .int x_5), (6, .int x_6), (7, .int x_7)] [] (put w a 22 (shM a s)) (fun r w2 => ∃ (r1 : Int64), r = some (.long r1) ∧ w2 = put w a 22 (shM a s) ∧ K r1)) (x_5 : Int32) (x_6 : Int32) (x_7 : Int32) (t_0 : Int32) (t_1 : Int64) (hQ : jp_X10_numberAt_135 s a0 a1 K k_65 x_5 x_6 x_7 t_0 t_1) : X G l m_X10_numberAt d 0 0 0 0 135 [(0, .ref a), (1, .int a0), (5, .int x_5), (6, .int x_6), (7, .int x_7)] [.int t_0, .long t_1] (put w a 22 (shM a s)) (fun r w2 => ∃ (r1 : Int64), r = some (.long r1) ∧ w2 = put w a 22 (shM a s) ∧ K r1) := by
  refine x_i2l d_X10_numberAt_135 rfl ?_
  refine x_ladd d_X10_numberAt_136 ?_
  refine x_topl (fun x11 e_x11 => ?_)
  have hQ := hQ x11 e_x11
  refine x_lstore_n (lv2 := [(3, .long x11), (0, .ref a), (1, .int a0), (5, .int x_5), (6, .int x_6), (7, .int x_7)]) d_X10_numberAt_137 rfl (by decide) rfl ?_
  obtain ⟨x12, e_x12⟩ : ∃ z : Int32, z = x_7 + (1 : Int32) := ⟨_, rfl⟩
  have hQ := hQ x12 e_x12
  refine x_iinc (v := x12) (lv2 := [(7, .int x12), (3, .long x11), (0, .ref a), (1, .int a0), (5, .int x_5), (6, .int x_6)]) 5 d_X10_numberAt_138 rfl (by rw [e_x12]; rfl) (by decide) rfl ?_
  refine x_goto (tgt := 65) d_X10_numberAt_141 (by decide) ?_
  refine x_sub [2, 3, 1, 4, 5, 0] (lv2 := [(0, .ref a), (1, .int a0), (3, .long x11), (5, .int x_5), (6, .int x_6), (7, .int x12)]) rfl ?_
  exact hk_65 x11 x_5 x_6 x12 hQ
def jp_X10_numberAt_109 (s : RT) (a0 : Int32) (a1 : Int32) (K : Int64 → Prop) (k_65 : Int64 → Int32 → Int32 → Int32 → Prop) (x_3 : Int64) (x_5 : Int32) (x_7 : Int32) (t_0 : Int32) : Prop := ((t_0 = (0 : Int32) → jp_X10_numberAt_135 s a0 a1 K k_65 x_5 t_0 x_7 (0 : Int32) ((10 : Int64) * x_3)) ∧ (¬ t_0 = (0 : Int32) → wp_X10_rightLetter s a0 x_5 (fun (r13 : Int32) => jp_X10_numberAt_135 s a0 a1 K k_65 x_5 t_0 x_7 (r13 - (48 : Int32)) ((10 : Int64) * x_3))))
set_option maxHeartbeats 4000000 in
theorem jt_X10_numberAt_109 {G : GX} {l : Launch} {d : Nat} {w : HW} {a : Nat} {s : RT} {a0 : Int32} {a1 : Int32} {K : Int64 → Prop} {k_65 : Int64 → Int32 → Int32 → Int32 → Prop} (hd : 2 ≤ d) (hk_65 : ∀ (x_3 : Int64) (x_5 : Int32) (x_6 : Int32) (x_7 : Int32), k_65 x_3 x_5 x_6 x_7 → X G l m_X10_numberAt d 0 0 0 0 65 [(0, .ref a), (1, .int a0), (3, .long x_3), (5, .int x_5), (6, .int x_6), (7, .int x_7)] [] (put w a 22 (shM a s)) (fun r w2 => ∃ (r1 : Int64), r = some (.long r1) ∧ w2 = put w a 22 (shM a s) ∧ K r1)) (x_3 : Int64) (x_5 : Int32) (x_7 : Int32) (t_0 : Int32) (hQ : jp_X10_numberAt_109 s a0 a1 K k_65 x_3 x_5 x_7 t_0) : X G l m_X10_numberAt d 0 0 0 0 109 [(0, .ref a), (1, .int a0), (3, .long x_3), (5, .int x_5), (7, .int x_7)] [.int t_0] (put w a 22 (shM a s)) (fun r w2 => ∃ (r1 : Int64), r = some (.long r1) ∧ w2 = put w a 22 (shM a s) ∧ K r1) := by
  refine x_istore (lv2 := [(6, .int t_0), (0, .ref a), (1, .int a0), (3, .long x_3), (5, .int x_5), (7, .int x_7)]) d_X10_numberAt_109 (by decide) rfl ?_
  refine x_ldc2 (v := (10 : Int64)) kc_X10_235 d_X10_numberAt_111 ?_
  refine x_lload_n 3 d_X10_numberAt_114 rfl rfl ?_
  refine x_lmul d_X10_numberAt_115 ?_
  refine x_iload 0 d_X10_numberAt_116 rfl ?_
  refine x_if_eq (tgt := 134) d_X10_numberAt_118 (by decide) (fun c_118_10 => ?_) (fun c_118_10 => ?_)
  · have hQ := hQ.1 c_118_10
    refine x_iconst (v := (0 : Int32)) d_X10_numberAt_134 (by decide) ?_
    refine x_sub [1, 2, 4, 0, 5] (lv2 := [(0, .ref a), (1, .int a0), (5, .int x_5), (6, .int t_0), (7, .int x_7)]) rfl ?_
    exact jt_X10_numberAt_135 hd hk_65 x_5 t_0 x_7 (0 : Int32) ((10 : Int64) * x_3) hQ
  · have hQ := hQ.2 c_118_10
    refine x_aload_n 1 d_X10_numberAt_121 rfl rfl ?_
    refine x_iload_n 2 d_X10_numberAt_122 rfl rfl ?_
    refine x_iload 4 d_X10_numberAt_123 rfl ?_
    refine x_invV (rest := [.long ((10 : Int64) * x_3)]) (d' := d - 1) (mc' := 0) (ms' := 0) [.int a0, .int x_5] k_X10_rightLetter lk_X10_130 gM_0 rfl rfl rfl (Nat.le_of_ble_eq_true rfl) (by omega) (Nat.le_refl _) (Nat.le_refl _) d_X10_numberAt_125 ((sp_X10_rightLetter (d := d - 1) (by omega) hQ).mono (fun r w2 hr => ?_))
    obtain ⟨r13, rfl, rfl, hQ⟩ := hr
    refine x_bipush (v := (48 : Int32)) d_X10_numberAt_128 (by decide) ?_
    refine x_isub d_X10_numberAt_130 ?_
    refine x_goto (tgt := 135) d_X10_numberAt_131 (by decide) ?_
    refine x_sub [1, 2, 4, 0, 5] (lv2 := [(0, .ref a), (1, .int a0), (5, .int x_5), (6, .int t_0), (7, .int x_7)]) rfl ?_
    exact jt_X10_numberAt_135 hd hk_65 x_5 t_0 x_7 (r13 - (48 : Int32)) ((10 : Int64) * x_3) hQ
def jp_X10_numberAt_108 (s : RT) (a0 : Int32) (a1 : Int32) (K : Int64 → Prop) (k_65 : Int64 → Int32 → Int32 → Int32 → Prop) (x_3 : Int64) (x_5 : Int32) (x_7 : Int32) : Prop := jp_X10_numberAt_109 s a0 a1 K k_65 x_3 x_5 x_7 (0 : Int32)
set_option maxHeartbeats 4000000 in
theorem jt_X10_numberAt_108 {G : GX} {l : Launch} {d : Nat} {w : HW} {a : Nat} {s : RT} {a0 : Int32} {a1 : Int32} {K : Int64 → Prop} {k_65 : Int64 → Int32 → Int32 → Int32 → Prop} (hd : 2 ≤ d) (hk_65 : ∀ (x_3 : Int64) (x_5 : Int32) (x_6 : Int32) (x_7 : Int32), k_65 x_3 x_5 x_6 x_7 → X G l m_X10_numberAt d 0 0 0 0 65 [(0, .ref a), (1, .int a0), (3, .long x_3), (5, .int x_5), (6, .int x_6), (7, .int x_7)] [] (put w a 22 (shM a s)) (fun r w2 => ∃ (r1 : Int64), r = some (.long r1) ∧ w2 = put w a 22 (shM a s) ∧ K r1)) (x_3 : Int64) (x_5 : Int32) (x_7 : Int32) (hQ : jp_X10_numberAt_108 s a0 a1 K k_65 x_3 x_5 x_7) : X G l m_X10_numberAt d 0 0 0 0 108 [(0, .ref a), (1, .int a0), (3, .long x_3), (5, .int x_5), (7, .int x_7)] [] (put w a 22 (shM a s)) (fun r w2 => ∃ (r1 : Int64), r = some (.long r1) ∧ w2 = put w a 22 (shM a s) ∧ K r1) := by
  refine x_iconst (v := (0 : Int32)) d_X10_numberAt_108 (by decide) ?_
  refine x_sub [0, 1, 2, 3, 4] (lv2 := [(0, .ref a), (1, .int a0), (3, .long x_3), (5, .int x_5), (7, .int x_7)]) rfl ?_
  exact jt_X10_numberAt_109 hd hk_65 x_3 x_5 x_7 (0 : Int32) hQ
def jp_X10_numberAt_83 (s : RT) (a0 : Int32) (a1 : Int32) (K : Int64 → Prop) (k_65 : Int64 → Int32 → Int32 → Int32 → Prop) (x_3 : Int64) (x_6 : Int32) (x_7 : Int32) (t_0 : Int32) (t_1 : Int32) : Prop := ∀ x8 : Int32, x8 = t_1 + t_0 → ((x_6 = (0 : Int32) → jp_X10_numberAt_108 s a0 a1 K k_65 x_3 x8 x_7) ∧ (¬ x_6 = (0 : Int32) → wp_X10_rightLetter s a0 x8 (fun (r14 : Int32) => wp_X10_isDigit r14 (fun (r15 : Int32) => ((r15 = (0 : Int32) → jp_X10_numberAt_108 s a0 a1 K k_65 x_3 x8 x_7) ∧ (¬ r15 = (0 : Int32) → jp_X10_numberAt_109 s a0 a1 K k_65 x_3 x8 x_7 (1 : Int32)))))))
set_option maxHeartbeats 4000000 in
theorem jt_X10_numberAt_83 {G : GX} {l : Launch} {d : Nat} {w : HW} {a : Nat} {s : RT} {a0 : Int32} {a1 : Int32} {K : Int64 → Prop} {k_65 : Int64 → Int32 → Int32 → Int32 → Prop} (hd : 2 ≤ d) (hk_65 : ∀ (x_3 : Int64) (x_5 : Int32) (x_6 : Int32) (x_7 : Int32), k_65 x_3 x_5 x_6 x_7 → X G l m_X10_numberAt d 0 0 0 0 65 [(0, .ref a), (1, .int a0), (3, .long x_3), (5, .int x_5), (6, .int x_6), (7, .int x_7)] [] (put w a 22 (shM a s)) (fun r w2 => ∃ (r1 : Int64), r = some (.long r1) ∧ w2 = put w a 22 (shM a s) ∧ K r1)) (x_3 : Int64) (x_6 : Int32) (x_7 : Int32) (t_0 : Int32) (t_1 : Int32) (hQ : jp_X10_numberAt_83 s a0 a1 K k_65 x_3 x_6 x_7 t_0 t_1) : X G l m_X10_numberAt d 0 0 0 0 83 [(0, .ref a), (1, .int a0), (3, .long x_3), (6, .int x_6), (7, .int x_7)] [.int t_0, .int t_1] (put w a 22 (shM a s)) (fun r w2 => ∃ (r1 : Int64), r = some (.long r1) ∧ w2 = put w a 22 (shM a s) ∧ K r1) := by
  refine x_iadd d_X10_numberAt_83 ?_
  refine x_topi (fun x8 e_x8 => ?_)
  have hQ := hQ x8 e_x8
  refine x_istore (lv2 := [(5, .int x8), (0, .ref a), (1, .int a0), (3, .long x_3), (6, .int x_6), (7, .int x_7)]) d_X10_numberAt_84 (by decide) rfl ?_
  refine x_iload 4 d_X10_numberAt_86 rfl ?_
  refine x_if_eq (tgt := 108) d_X10_numberAt_88 (by decide) (fun c_88_9 => ?_) (fun c_88_9 => ?_)
  · have hQ := hQ.1 c_88_9
    refine x_sub [1, 2, 3, 0, 5] (lv2 := [(0, .ref a), (1, .int a0), (3, .long x_3), (5, .int x8), (7, .int x_7)]) rfl ?_
    exact jt_X10_numberAt_108 hd hk_65 x_3 x8 x_7 hQ
  · have hQ := hQ.2 c_88_9
    refine x_aload_n 1 d_X10_numberAt_91 rfl rfl ?_
    refine x_iload_n 2 d_X10_numberAt_92 rfl rfl ?_
    refine x_iload 0 d_X10_numberAt_93 rfl ?_
    refine x_invV (rest := []) (d' := d - 1) (mc' := 0) (ms' := 0) [.int a0, .int x8] k_X10_rightLetter lk_X10_130 gM_0 rfl rfl rfl (Nat.le_of_ble_eq_true rfl) (by omega) (Nat.le_refl _) (Nat.le_refl _) d_X10_numberAt_95 ((sp_X10_rightLetter (d := d - 1) (by omega) hQ).mono (fun r w2 hr => ?_))
    obtain ⟨r14, rfl, rfl, hQ⟩ := hr
    refine x_invS (rest := []) (d' := d - 1) (mc' := 0) (ms' := 0) [.int r14] k_X10_isDigit lk_X10_105 rfl rfl (Nat.le_of_ble_eq_true rfl) (by omega) (Nat.le_refl _) (Nat.le_refl _) d_X10_numberAt_98 ((sp_X10_isDigit (d := d - 1) (by omega) hQ).mono (fun r w2 hr => ?_))
    obtain ⟨r15, rfl, rfl, hQ⟩ := hr
    refine x_if_eq (tgt := 108) d_X10_numberAt_101 (by decide) (fun c_101_16 => ?_) (fun c_101_16 => ?_)
    · have hQ := hQ.1 c_101_16
      refine x_sub [1, 2, 3, 0, 5] (lv2 := [(0, .ref a), (1, .int a0), (3, .long x_3), (5, .int x8), (7, .int x_7)]) rfl ?_
      exact jt_X10_numberAt_108 hd hk_65 x_3 x8 x_7 hQ
    · have hQ := hQ.2 c_101_16
      refine x_iconst (v := (1 : Int32)) d_X10_numberAt_104 (by decide) ?_
      refine x_goto (tgt := 109) d_X10_numberAt_105 (by decide) ?_
      refine x_sub [1, 2, 3, 0, 5] (lv2 := [(0, .ref a), (1, .int a0), (3, .long x_3), (5, .int x8), (7, .int x_7)]) rfl ?_
      exact jt_X10_numberAt_109 hd hk_65 x_3 x8 x_7 (1 : Int32) hQ
def lp_X10_numberAt_65 (s : RT) (a0 : Int32) (a1 : Int32) (K : Int64 → Prop) : Nat → Int64 → Int32 → Int32 → Int32 → Prop
  | 0, _, _, _, _ => False
  | n + 1, x_3, x_5, x_6, x_7 => (((3 : Int32) ≤ x_7 → K x_3) ∧ (¬ (3 : Int32) ≤ x_7 → ((x_6 = (0 : Int32) → jp_X10_numberAt_83 s a0 a1 K (fun v0 v1 v2 v3 => lp_X10_numberAt_65 s a0 a1 K n v0 v1 v2 v3) x_3 x_6 x_7 (0 : Int32) x_5) ∧ (¬ x_6 = (0 : Int32) → jp_X10_numberAt_83 s a0 a1 K (fun v0 v1 v2 v3 => lp_X10_numberAt_65 s a0 a1 K n v0 v1 v2 v3) x_3 x_6 x_7 (1 : Int32) x_5))))
set_option maxHeartbeats 4000000 in
theorem jt_X10_numberAt_65 {G : GX} {l : Launch} {d : Nat} {w : HW} {a : Nat} {s : RT} {a0 : Int32} {a1 : Int32} {K : Int64 → Prop} (hd : 2 ≤ d) : ∀ (n : Nat) (x_3 : Int64) (x_5 : Int32) (x_6 : Int32) (x_7 : Int32), lp_X10_numberAt_65 s a0 a1 K n x_3 x_5 x_6 x_7 → X G l m_X10_numberAt d 0 0 0 0 65 [(0, .ref a), (1, .int a0), (3, .long x_3), (5, .int x_5), (6, .int x_6), (7, .int x_7)] [] (put w a 22 (shM a s)) (fun r w2 => ∃ (r1 : Int64), r = some (.long r1) ∧ w2 = put w a 22 (shM a s) ∧ K r1) := by
  intro n
  induction n with
  | zero =>
    intro x_3 x_5 x_6 x_7 hQ
    exact hQ.elim
  | succ n ih =>
    intro x_3 x_5 x_6 x_7 hQ
    refine x_iload 5 d_X10_numberAt_65 rfl ?_
    refine x_iconst (v := (3 : Int32)) d_X10_numberAt_67 (by decide) ?_
    refine x_icmp_ge (tgt := 144) d_X10_numberAt_68 (by decide) (fun c_68_6 => ?_) (fun c_68_6 => ?_)
    · have hQ := hQ.1 c_68_6
      refine x_lload_n 2 d_X10_numberAt_144 rfl rfl ?_
      exact x_lret (retL d_X10_numberAt_145 rfl) ⟨_, rfl, rfl, hQ⟩
    · have hQ := hQ.2 c_68_6
      refine x_iload 3 d_X10_numberAt_71 rfl ?_
      refine x_iload 4 d_X10_numberAt_73 rfl ?_
      refine x_if_eq (tgt := 82) d_X10_numberAt_75 (by decide) (fun c_75_7 => ?_) (fun c_75_7 => ?_)
      · have hQ := hQ.1 c_75_7
        refine x_iconst (v := (0 : Int32)) d_X10_numberAt_82 (by decide) ?_
        refine x_sub [0, 1, 2, 4, 5] (lv2 := [(0, .ref a), (1, .int a0), (3, .long x_3), (6, .int x_6), (7, .int x_7)]) rfl ?_
        exact jt_X10_numberAt_83 hd ih x_3 x_6 x_7 (0 : Int32) x_5 hQ
      · have hQ := hQ.2 c_75_7
        refine x_iconst (v := (1 : Int32)) d_X10_numberAt_78 (by decide) ?_
        refine x_goto (tgt := 83) d_X10_numberAt_79 (by decide) ?_
        refine x_sub [0, 1, 2, 4, 5] (lv2 := [(0, .ref a), (1, .int a0), (3, .long x_3), (6, .int x_6), (7, .int x_7)]) rfl ?_
        exact jt_X10_numberAt_83 hd ih x_3 x_6 x_7 (1 : Int32) x_5 hQ
def lp_X10_numberAt_5 (s : RT) (a0 : Int32) (a1 : Int32) (K : Int64 → Prop) : Nat → Int64 → Int32 → Prop
  | 0, _, _ => False
  | n + 1, x_3, x_5 => wp_X10_rightLetter s a0 x_5 (fun (r1 : Int32) => wp_X10_isDigit r1 (fun (r2 : Int32) => ((r2 = (0 : Int32) → wp_X10_rightLetter s a0 x_5 (fun (r4 : Int32) => ((¬ r4 = (46 : Int32) → ∃ m : Nat, lp_X10_numberAt_65 s a0 a1 K m x_3 x_5 (0 : Int32) (0 : Int32)) ∧ (r4 = (46 : Int32) → ∃ m : Nat, lp_X10_numberAt_65 s a0 a1 K m x_3 x_5 (1 : Int32) (0 : Int32))))) ∧ (¬ r2 = (0 : Int32) → wp_X10_rightLetter s a0 x_5 (fun (r17 : Int32) => ∀ x18 : Int64, x18 = (((10 : Int64) * x_3) + (r17.toInt64)) - (48 : Int64) → ∀ x19 : Int32, x19 = x_5 + (1 : Int32) → lp_X10_numberAt_5 s a0 a1 K n x18 x19)))))
set_option maxHeartbeats 4000000 in
theorem jt_X10_numberAt_5 {G : GX} {l : Launch} {d : Nat} {w : HW} {a : Nat} {s : RT} {a0 : Int32} {a1 : Int32} {K : Int64 → Prop} (hd : 2 ≤ d) : ∀ (n : Nat) (x_3 : Int64) (x_5 : Int32), lp_X10_numberAt_5 s a0 a1 K n x_3 x_5 → X G l m_X10_numberAt d 0 0 0 0 5 [(0, .ref a), (1, .int a0), (3, .long x_3), (5, .int x_5)] [] (put w a 22 (shM a s)) (fun r w2 => ∃ (r1 : Int64), r = some (.long r1) ∧ w2 = put w a 22 (shM a s) ∧ K r1) := by
  intro n
  induction n with
  | zero =>
    intro x_3 x_5 hQ
    exact hQ.elim
  | succ n ih =>
    intro x_3 x_5 hQ
    refine x_aload_n 0 d_X10_numberAt_5 rfl rfl ?_
    refine x_iload_n 1 d_X10_numberAt_6 rfl rfl ?_
    refine x_iload 3 d_X10_numberAt_7 rfl ?_
    refine x_invV (rest := []) (d' := d - 1) (mc' := 0) (ms' := 0) [.int a0, .int x_5] k_X10_rightLetter lk_X10_130 gM_0 rfl rfl rfl (Nat.le_of_ble_eq_true rfl) (by omega) (Nat.le_refl _) (Nat.le_refl _) d_X10_numberAt_9 ((sp_X10_rightLetter (d := d - 1) (by omega) hQ).mono (fun r w2 hr => ?_))
    obtain ⟨r1, rfl, rfl, hQ⟩ := hr
    refine x_invS (rest := []) (d' := d - 1) (mc' := 0) (ms' := 0) [.int r1] k_X10_isDigit lk_X10_105 rfl rfl (Nat.le_of_ble_eq_true rfl) (by omega) (Nat.le_refl _) (Nat.le_refl _) d_X10_numberAt_12 ((sp_X10_isDigit (d := d - 1) (by omega) hQ).mono (fun r w2 hr => ?_))
    obtain ⟨r2, rfl, rfl, hQ⟩ := hr
    refine x_if_eq (tgt := 43) d_X10_numberAt_15 (by decide) (fun c_15_3 => ?_) (fun c_15_3 => ?_)
    · have hQ := hQ.1 c_15_3
      refine x_aload_n 0 d_X10_numberAt_43 rfl rfl ?_
      refine x_iload_n 1 d_X10_numberAt_44 rfl rfl ?_
      refine x_iload 3 d_X10_numberAt_45 rfl ?_
      refine x_invV (rest := []) (d' := d - 1) (mc' := 0) (ms' := 0) [.int a0, .int x_5] k_X10_rightLetter lk_X10_130 gM_0 rfl rfl rfl (Nat.le_of_ble_eq_true rfl) (by omega) (Nat.le_refl _) (Nat.le_refl _) d_X10_numberAt_47 ((sp_X10_rightLetter (d := d - 1) (by omega) hQ).mono (fun r w2 hr => ?_))
      obtain ⟨r4, rfl, rfl, hQ⟩ := hr
      refine x_bipush (v := (46 : Int32)) d_X10_numberAt_50 (by decide) ?_
      refine x_icmp_ne (tgt := 59) d_X10_numberAt_52 (by decide) (fun c_52_5 => ?_) (fun c_52_5 => ?_)
      · have hQ := hQ.1 c_52_5
        refine x_iconst (v := (0 : Int32)) d_X10_numberAt_59 (by decide) ?_
        refine x_istore (lv2 := [(6, .int (0 : Int32)), (0, .ref a), (1, .int a0), (3, .long x_3), (5, .int x_5)]) d_X10_numberAt_60 (by decide) rfl ?_
        refine x_iconst (v := (0 : Int32)) d_X10_numberAt_62 (by decide) ?_
        refine x_istore (lv2 := [(7, .int (0 : Int32)), (6, .int (0 : Int32)), (0, .ref a), (1, .int a0), (3, .long x_3), (5, .int x_5)]) d_X10_numberAt_63 (by decide) rfl ?_
        refine x_sub [2, 3, 4, 5, 1, 0] (lv2 := [(0, .ref a), (1, .int a0), (3, .long x_3), (5, .int x_5), (6, .int (0 : Int32)), (7, .int (0 : Int32))]) rfl ?_
        obtain ⟨m, hQ⟩ := hQ
        exact jt_X10_numberAt_65 hd m x_3 x_5 (0 : Int32) (0 : Int32) hQ
      · have hQ := hQ.2 c_52_5
        refine x_iconst (v := (1 : Int32)) d_X10_numberAt_55 (by decide) ?_
        refine x_goto (tgt := 60) d_X10_numberAt_56 (by decide) ?_
        refine x_istore (lv2 := [(6, .int (1 : Int32)), (0, .ref a), (1, .int a0), (3, .long x_3), (5, .int x_5)]) d_X10_numberAt_60 (by decide) rfl ?_
        refine x_iconst (v := (0 : Int32)) d_X10_numberAt_62 (by decide) ?_
        refine x_istore (lv2 := [(7, .int (0 : Int32)), (6, .int (1 : Int32)), (0, .ref a), (1, .int a0), (3, .long x_3), (5, .int x_5)]) d_X10_numberAt_63 (by decide) rfl ?_
        refine x_sub [2, 3, 4, 5, 1, 0] (lv2 := [(0, .ref a), (1, .int a0), (3, .long x_3), (5, .int x_5), (6, .int (1 : Int32)), (7, .int (0 : Int32))]) rfl ?_
        obtain ⟨m, hQ⟩ := hQ
        exact jt_X10_numberAt_65 hd m x_3 x_5 (1 : Int32) (0 : Int32) hQ
    · have hQ := hQ.2 c_15_3
      refine x_ldc2 (v := (10 : Int64)) kc_X10_235 d_X10_numberAt_18 ?_
      refine x_lload_n 2 d_X10_numberAt_21 rfl rfl ?_
      refine x_lmul d_X10_numberAt_22 ?_
      refine x_aload_n 0 d_X10_numberAt_23 rfl rfl ?_
      refine x_iload_n 1 d_X10_numberAt_24 rfl rfl ?_
      refine x_iload 3 d_X10_numberAt_25 rfl ?_
      refine x_invV (rest := [.long ((10 : Int64) * x_3)]) (d' := d - 1) (mc' := 0) (ms' := 0) [.int a0, .int x_5] k_X10_rightLetter lk_X10_130 gM_0 rfl rfl rfl (Nat.le_of_ble_eq_true rfl) (by omega) (Nat.le_refl _) (Nat.le_refl _) d_X10_numberAt_27 ((sp_X10_rightLetter (d := d - 1) (by omega) hQ).mono (fun r w2 hr => ?_))
      obtain ⟨r17, rfl, rfl, hQ⟩ := hr
      refine x_i2l d_X10_numberAt_30 rfl ?_
      refine x_ladd d_X10_numberAt_31 ?_
      refine x_ldc2 (v := (48 : Int64)) kc_X10_237 d_X10_numberAt_32 ?_
      refine x_lsub d_X10_numberAt_35 ?_
      refine x_topl (fun x18 e_x18 => ?_)
      have hQ := hQ x18 e_x18
      refine x_lstore_n (lv2 := [(3, .long x18), (0, .ref a), (1, .int a0), (5, .int x_5)]) d_X10_numberAt_36 rfl (by decide) rfl ?_
      obtain ⟨x19, e_x19⟩ : ∃ z : Int32, z = x_5 + (1 : Int32) := ⟨_, rfl⟩
      have hQ := hQ x19 e_x19
      refine x_iinc (v := x19) (lv2 := [(5, .int x19), (3, .long x18), (0, .ref a), (1, .int a0)]) 3 d_X10_numberAt_37 rfl (by rw [e_x19]; rfl) (by decide) rfl ?_
      refine x_goto (tgt := 5) d_X10_numberAt_40 (by decide) ?_
      refine x_sub [2, 3, 1, 0] (lv2 := [(0, .ref a), (1, .int a0), (3, .long x18), (5, .int x19)]) rfl ?_
      exact ih x18 x19 hQ
def wp_X10_numberAt (s : RT) (a0 : Int32) (a1 : Int32) (K : Int64 → Prop) : Prop := ∃ m : Nat, lp_X10_numberAt_5 s a0 a1 K m (0 : Int64) a1
set_option maxHeartbeats 4000000 in
theorem sp_X10_numberAt {G : GX} {l : Launch} {d : Nat} {w : HW} {a : Nat} {s : RT} {a0 : Int32} {a1 : Int32} {K : Int64 → Prop} (hd : 2 ≤ d) (hQ : wp_X10_numberAt s a0 a1 K) : Sp G l m_X10_numberAt d 0 0 [.ref a, .int a0, .int a1] (put w a 22 (shM a s)) (fun r w2 => ∃ (r1 : Int64), r = some (.long r1) ∧ w2 = put w a 22 (shM a s) ∧ K r1) := by
  refine Sp.ofX k_X10_numberAt.1.1 (Nat.le_of_ble_eq_true rfl) ?_
  refine X.lv (lv2 := [(0, .ref a), (1, .int a0), (2, .int a1)]) rfl ?_
  refine x_lconst (v := (0 : Int64)) d_X10_numberAt_0 (by decide) ?_
  refine x_lstore_n (lv2 := [(3, .long (0 : Int64)), (0, .ref a), (1, .int a0), (2, .int a1)]) d_X10_numberAt_1 rfl (by decide) rfl ?_
  refine x_iload_n 3 d_X10_numberAt_2 rfl rfl ?_
  refine x_istore (lv2 := [(5, .int a1), (3, .long (0 : Int64)), (0, .ref a), (1, .int a0), (2, .int a1)]) d_X10_numberAt_3 (by decide) rfl ?_
  refine x_sub [2, 3, 1, 0] (lv2 := [(0, .ref a), (1, .int a0), (3, .long (0 : Int64)), (5, .int a1)]) rfl ?_
  obtain ⟨m, hQ⟩ := hQ
  exact jt_X10_numberAt_5 hd m (0 : Int64) a1 hQ
def lp_X10_behindNumber_2 (s : RT) (a0 : Int32) (a1 : Int32) (K : Int32 → Prop) : Nat → Int32 → Prop
  | 0, _ => False
  | n + 1, x_3 => wp_X10_rightLetter s a0 x_3 (fun (r1 : Int32) => wp_X10_isDigit r1 (fun (r2 : Int32) => ((¬ r2 = (0 : Int32) → ∀ x4 : Int32, x4 = x_3 + (1 : Int32) → lp_X10_behindNumber_2 s a0 a1 K n x4) ∧ (r2 = (0 : Int32) → wp_X10_rightLetter s a0 x_3 (fun (r5 : Int32) => ((¬ r5 = (46 : Int32) → K x_3) ∧ (r5 = (46 : Int32) → ∀ x7 : Int32, x7 = x_3 + (1 : Int32) → lp_X10_behindNumber_2 s a0 a1 K n x7)))))))
set_option maxHeartbeats 4000000 in
theorem jt_X10_behindNumber_2 {G : GX} {l : Launch} {d : Nat} {w : HW} {a : Nat} {s : RT} {a0 : Int32} {a1 : Int32} {K : Int32 → Prop} (hd : 2 ≤ d) : ∀ (n : Nat) (x_3 : Int32), lp_X10_behindNumber_2 s a0 a1 K n x_3 → X G l m_X10_behindNumber d 0 0 0 0 2 [(0, .ref a), (1, .int a0), (3, .int x_3)] [] (put w a 22 (shM a s)) (fun r w2 => ∃ (r1 : Int32), r = some (.int r1) ∧ w2 = put w a 22 (shM a s) ∧ K r1) := by
  intro n
  induction n with
  | zero =>
    intro x_3 hQ
    exact hQ.elim
  | succ n ih =>
    intro x_3 hQ
    refine x_aload_n 0 d_X10_behindNumber_2 rfl rfl ?_
    refine x_iload_n 1 d_X10_behindNumber_3 rfl rfl ?_
    refine x_iload_n 2 d_X10_behindNumber_4 rfl rfl ?_
    refine x_invV (rest := []) (d' := d - 1) (mc' := 0) (ms' := 0) [.int a0, .int x_3] k_X10_rightLetter lk_X10_130 gM_0 rfl rfl rfl (Nat.le_of_ble_eq_true rfl) (by omega) (Nat.le_refl _) (Nat.le_refl _) d_X10_behindNumber_5 ((sp_X10_rightLetter (d := d - 1) (by omega) hQ).mono (fun r w2 hr => ?_))
    obtain ⟨r1, rfl, rfl, hQ⟩ := hr
    refine x_invS (rest := []) (d' := d - 1) (mc' := 0) (ms' := 0) [.int r1] k_X10_isDigit lk_X10_105 rfl rfl (Nat.le_of_ble_eq_true rfl) (by omega) (Nat.le_refl _) (Nat.le_refl _) d_X10_behindNumber_8 ((sp_X10_isDigit (d := d - 1) (by omega) hQ).mono (fun r w2 hr => ?_))
    obtain ⟨r2, rfl, rfl, hQ⟩ := hr
    refine x_if_ne (tgt := 25) d_X10_behindNumber_11 (by decide) (fun c_11_3 => ?_) (fun c_11_3 => ?_)
    · have hQ := hQ.1 c_11_3
      obtain ⟨x4, e_x4⟩ : ∃ z : Int32, z = x_3 + (1 : Int32) := ⟨_, rfl⟩
      have hQ := hQ x4 e_x4
      refine x_iinc (v := x4) (lv2 := [(3, .int x4), (0, .ref a), (1, .int a0)]) 2 d_X10_behindNumber_25 rfl (by rw [e_x4]; rfl) (by decide) rfl ?_
      refine x_goto (tgt := 2) d_X10_behindNumber_28 (by decide) ?_
      refine x_sub [1, 2, 0] (lv2 := [(0, .ref a), (1, .int a0), (3, .int x4)]) rfl ?_
      exact ih x4 hQ
    · have hQ := hQ.2 c_11_3
      refine x_aload_n 0 d_X10_behindNumber_14 rfl rfl ?_
      refine x_iload_n 1 d_X10_behindNumber_15 rfl rfl ?_
      refine x_iload_n 2 d_X10_behindNumber_16 rfl rfl ?_
      refine x_invV (rest := []) (d' := d - 1) (mc' := 0) (ms' := 0) [.int a0, .int x_3] k_X10_rightLetter lk_X10_130 gM_0 rfl rfl rfl (Nat.le_of_ble_eq_true rfl) (by omega) (Nat.le_refl _) (Nat.le_refl _) d_X10_behindNumber_17 ((sp_X10_rightLetter (d := d - 1) (by omega) hQ).mono (fun r w2 hr => ?_))
      obtain ⟨r5, rfl, rfl, hQ⟩ := hr
      refine x_bipush (v := (46 : Int32)) d_X10_behindNumber_20 (by decide) ?_
      refine x_icmp_ne (tgt := 31) d_X10_behindNumber_22 (by decide) (fun c_22_6 => ?_) (fun c_22_6 => ?_)
      · have hQ := hQ.1 c_22_6
        refine x_iload_n 2 d_X10_behindNumber_31 rfl rfl ?_
        exact x_iret (retI d_X10_behindNumber_32 rfl) ⟨_, rfl, rfl, hQ⟩
      · have hQ := hQ.2 c_22_6
        obtain ⟨x7, e_x7⟩ : ∃ z : Int32, z = x_3 + (1 : Int32) := ⟨_, rfl⟩
        have hQ := hQ x7 e_x7
        refine x_iinc (v := x7) (lv2 := [(3, .int x7), (0, .ref a), (1, .int a0)]) 2 d_X10_behindNumber_25 rfl (by rw [e_x7]; rfl) (by decide) rfl ?_
        refine x_goto (tgt := 2) d_X10_behindNumber_28 (by decide) ?_
        refine x_sub [1, 2, 0] (lv2 := [(0, .ref a), (1, .int a0), (3, .int x7)]) rfl ?_
        exact ih x7 hQ
def wp_X10_behindNumber (s : RT) (a0 : Int32) (a1 : Int32) (K : Int32 → Prop) : Prop := ∃ m : Nat, lp_X10_behindNumber_2 s a0 a1 K m a1
set_option maxHeartbeats 4000000 in
theorem sp_X10_behindNumber {G : GX} {l : Launch} {d : Nat} {w : HW} {a : Nat} {s : RT} {a0 : Int32} {a1 : Int32} {K : Int32 → Prop} (hd : 2 ≤ d) (hQ : wp_X10_behindNumber s a0 a1 K) : Sp G l m_X10_behindNumber d 0 0 [.ref a, .int a0, .int a1] (put w a 22 (shM a s)) (fun r w2 => ∃ (r1 : Int32), r = some (.int r1) ∧ w2 = put w a 22 (shM a s) ∧ K r1) := by
  refine Sp.ofX k_X10_behindNumber.1.1 (Nat.le_of_ble_eq_true rfl) ?_
  refine X.lv (lv2 := [(0, .ref a), (1, .int a0), (2, .int a1)]) rfl ?_
  refine x_iload_n 2 d_X10_behindNumber_0 rfl rfl ?_
  refine x_istore_n (lv2 := [(3, .int a1), (0, .ref a), (1, .int a0), (2, .int a1)]) d_X10_behindNumber_1 rfl (by decide) rfl ?_
  refine x_sub [1, 2, 0] (lv2 := [(0, .ref a), (1, .int a0), (3, .int a1)]) rfl ?_
  obtain ⟨m, hQ⟩ := hQ
  exact jt_X10_behindNumber_2 hd m a1 hQ
def jp_X10_opens_18 (a0 : Int32) (a1 : Int32) (K : RT → Prop) (y_0 : RT) : Prop := wp_X10_putsSign y_0 a0 (fun (s2 : RT) => K s2)
set_option maxHeartbeats 4000000 in
theorem jt_X10_opens_18 {G : GX} {l : Launch} {d : Nat} {w : HW} {a : Nat} {a0 : Int32} {a1 : Int32} {K : RT → Prop} (hd : 3 ≤ d) (y_0 : RT) (hQ : jp_X10_opens_18 a0 a1 K y_0) : X G l m_X10_opens d 0 0 0 0 18 [(0, .ref a), (1, .int a0)] [] (put w a 22 (shM a y_0)) (fun r w2 => ∃ (z0 : RT), r = none ∧ w2 = put w a 22 (shM a z0) ∧ K z0) := by
  refine x_aload_n 0 d_X10_opens_18 rfl rfl ?_
  refine x_iload_n 1 d_X10_opens_19 rfl rfl ?_
  refine x_invV (rest := []) (d' := d - 1) (mc' := 0) (ms' := 0) [.int a0] k_X10_putsSign lk_X10_262 gM_0 rfl rfl rfl (Nat.le_of_ble_eq_true rfl) (by omega) (Nat.le_refl _) (Nat.le_refl _) d_X10_opens_20 ((sp_X10_putsSign (d := d - 1) (by omega) hQ).mono (fun r w2 hr => ?_))
  obtain ⟨s2, rfl, rfl, hQ⟩ := hr
  refine x_goto (tgt := 71) d_X10_opens_23 (by decide) ?_
  exact x_vret (retV d_X10_opens_71 rfl) ⟨_, rfl, rfl, hQ⟩
def wp_X10_opens (s : RT) (a0 : Int32) (a1 : Int32) (K : RT → Prop) : Prop := ((a0 = (40 : Int32) → jp_X10_opens_18 a0 a1 K s) ∧ (¬ a0 = (40 : Int32) → ((a0 = (105 : Int32) → jp_X10_opens_18 a0 a1 K s) ∧ (¬ a0 = (105 : Int32) → ((¬ a0 = (97 : Int32) → ((¬ a0 = (44 : Int32) → ((a1 = (0 : Int32) → wp_X10_rank a0 (fun (r7 : Int32) => wp_X10_carriesAll s r7 (fun (s8 : RT) => wp_X10_putsSign s8 a0 (fun (s9 : RT) => K s9)))) ∧ (¬ a1 = (0 : Int32) → wp_X10_putsSign s (126 : Int32) (fun (s10 : RT) => K s10)))) ∧ (a0 = (44 : Int32) → wp_X10_carriesAll s (1 : Int32) (fun (s11 : RT) => wp_X10_putsSign s11 a0 (fun (s12 : RT) => K s12))))) ∧ (a0 = (97 : Int32) → jp_X10_opens_18 a0 a1 K s))))))
set_option maxHeartbeats 4000000 in
theorem sp_X10_opens {G : GX} {l : Launch} {d : Nat} {w : HW} {a : Nat} {s : RT} {a0 : Int32} {a1 : Int32} {K : RT → Prop} (hd : 3 ≤ d) (hQ : wp_X10_opens s a0 a1 K) : Sp G l m_X10_opens d 0 0 [.ref a, .int a0, .int a1] (put w a 22 (shM a s)) (fun r w2 => ∃ (z0 : RT), r = none ∧ w2 = put w a 22 (shM a z0) ∧ K z0) := by
  refine Sp.ofX k_X10_opens.1.1 (Nat.le_of_ble_eq_true rfl) ?_
  refine X.lv (lv2 := [(0, .ref a), (1, .int a0), (2, .int a1)]) rfl ?_
  refine x_iload_n 1 d_X10_opens_0 rfl rfl ?_
  refine x_bipush (v := (40 : Int32)) d_X10_opens_1 (by decide) ?_
  refine x_icmp_eq (tgt := 18) d_X10_opens_3 (by decide) (fun c_3_1 => ?_) (fun c_3_1 => ?_)
  · have hQ := hQ.1 c_3_1
    refine x_sub [0, 1] (lv2 := [(0, .ref a), (1, .int a0)]) rfl ?_
    exact jt_X10_opens_18 hd s hQ
  · have hQ := hQ.2 c_3_1
    refine x_iload_n 1 d_X10_opens_6 rfl rfl ?_
    refine x_bipush (v := (105 : Int32)) d_X10_opens_7 (by decide) ?_
    refine x_icmp_eq (tgt := 18) d_X10_opens_9 (by decide) (fun c_9_3 => ?_) (fun c_9_3 => ?_)
    · have hQ := hQ.1 c_9_3
      refine x_sub [0, 1] (lv2 := [(0, .ref a), (1, .int a0)]) rfl ?_
      exact jt_X10_opens_18 hd s hQ
    · have hQ := hQ.2 c_9_3
      refine x_iload_n 1 d_X10_opens_12 rfl rfl ?_
      refine x_bipush (v := (97 : Int32)) d_X10_opens_13 (by decide) ?_
      refine x_icmp_ne (tgt := 26) d_X10_opens_15 (by decide) (fun c_15_4 => ?_) (fun c_15_4 => ?_)
      · have hQ := hQ.1 c_15_4
        refine x_iload_n 1 d_X10_opens_26 rfl rfl ?_
        refine x_bipush (v := (44 : Int32)) d_X10_opens_27 (by decide) ?_
        refine x_icmp_ne (tgt := 45) d_X10_opens_29 (by decide) (fun c_29_5 => ?_) (fun c_29_5 => ?_)
        · have hQ := hQ.1 c_29_5
          refine x_iload_n 2 d_X10_opens_45 rfl rfl ?_
          refine x_if_eq (tgt := 58) d_X10_opens_46 (by decide) (fun c_46_6 => ?_) (fun c_46_6 => ?_)
          · have hQ := hQ.1 c_46_6
            refine x_aload_n 0 d_X10_opens_58 rfl rfl ?_
            refine x_iload_n 1 d_X10_opens_59 rfl rfl ?_
            refine x_invS (rest := [.ref a]) (d' := d - 1) (mc' := 0) (ms' := 0) [.int a0] k_X10_rank lk_X10_222 rfl rfl (Nat.le_of_ble_eq_true rfl) (by omega) (Nat.le_refl _) (Nat.le_refl _) d_X10_opens_60 ((sp_X10_rank (d := d - 1) (by omega) hQ).mono (fun r w2 hr => ?_))
            obtain ⟨r7, rfl, rfl, hQ⟩ := hr
            refine x_invV (rest := []) (d' := d - 1) (mc' := 0) (ms' := 0) [.int r7] k_X10_carriesAll lk_X10_231 gM_0 rfl rfl rfl (Nat.le_of_ble_eq_true rfl) (by omega) (Nat.le_refl _) (Nat.le_refl _) d_X10_opens_63 ((sp_X10_carriesAll (d := d - 1) (by omega) hQ).mono (fun r w2 hr => ?_))
            obtain ⟨s8, rfl, rfl, hQ⟩ := hr
            refine x_aload_n 0 d_X10_opens_66 rfl rfl ?_
            refine x_iload_n 1 d_X10_opens_67 rfl rfl ?_
            refine x_invV (rest := []) (d' := d - 1) (mc' := 0) (ms' := 0) [.int a0] k_X10_putsSign lk_X10_262 gM_0 rfl rfl rfl (Nat.le_of_ble_eq_true rfl) (by omega) (Nat.le_refl _) (Nat.le_refl _) d_X10_opens_68 ((sp_X10_putsSign (d := d - 1) (by omega) hQ).mono (fun r w2 hr => ?_))
            obtain ⟨s9, rfl, rfl, hQ⟩ := hr
            exact x_vret (retV d_X10_opens_71 rfl) ⟨_, rfl, rfl, hQ⟩
          · have hQ := hQ.2 c_46_6
            refine x_aload_n 0 d_X10_opens_49 rfl rfl ?_
            refine x_bipush (v := (126 : Int32)) d_X10_opens_50 (by decide) ?_
            refine x_invV (rest := []) (d' := d - 1) (mc' := 0) (ms' := 0) [.int (126 : Int32)] k_X10_putsSign lk_X10_262 gM_0 rfl rfl rfl (Nat.le_of_ble_eq_true rfl) (by omega) (Nat.le_refl _) (Nat.le_refl _) d_X10_opens_52 ((sp_X10_putsSign (d := d - 1) (by omega) hQ).mono (fun r w2 hr => ?_))
            obtain ⟨s10, rfl, rfl, hQ⟩ := hr
            refine x_goto (tgt := 71) d_X10_opens_55 (by decide) ?_
            exact x_vret (retV d_X10_opens_71 rfl) ⟨_, rfl, rfl, hQ⟩
        · have hQ := hQ.2 c_29_5
          refine x_aload_n 0 d_X10_opens_32 rfl rfl ?_
          refine x_iconst (v := (1 : Int32)) d_X10_opens_33 (by decide) ?_
          refine x_invV (rest := []) (d' := d - 1) (mc' := 0) (ms' := 0) [.int (1 : Int32)] k_X10_carriesAll lk_X10_231 gM_0 rfl rfl rfl (Nat.le_of_ble_eq_true rfl) (by omega) (Nat.le_refl _) (Nat.le_refl _) d_X10_opens_34 ((sp_X10_carriesAll (d := d - 1) (by omega) hQ).mono (fun r w2 hr => ?_))
          obtain ⟨s11, rfl, rfl, hQ⟩ := hr
          refine x_aload_n 0 d_X10_opens_37 rfl rfl ?_
          refine x_iload_n 1 d_X10_opens_38 rfl rfl ?_
          refine x_invV (rest := []) (d' := d - 1) (mc' := 0) (ms' := 0) [.int a0] k_X10_putsSign lk_X10_262 gM_0 rfl rfl rfl (Nat.le_of_ble_eq_true rfl) (by omega) (Nat.le_refl _) (Nat.le_refl _) d_X10_opens_39 ((sp_X10_putsSign (d := d - 1) (by omega) hQ).mono (fun r w2 hr => ?_))
          obtain ⟨s12, rfl, rfl, hQ⟩ := hr
          refine x_goto (tgt := 71) d_X10_opens_42 (by decide) ?_
          exact x_vret (retV d_X10_opens_71 rfl) ⟨_, rfl, rfl, hQ⟩
      · have hQ := hQ.2 c_15_4
        refine x_sub [0, 1] (lv2 := [(0, .ref a), (1, .int a0)]) rfl ?_
        exact jt_X10_opens_18 hd s hQ
def jp_X10_worksOut_321 (a0 : Int32) (a1 : Int32) (K : Int64 → RT → Prop) (k_15 : Int32 → Int32 → RT → Prop) (x_6 : Int32) (t_0 : Int32) (y_0 : RT) : Prop := k_15 t_0 x_6 y_0
set_option maxHeartbeats 4000000 in
theorem jt_X10_worksOut_321 {G : GX} {l : Launch} {d : Nat} {w : HW} {a : Nat} {a0 : Int32} {a1 : Int32} {K : Int64 → RT → Prop} {k_15 : Int32 → Int32 → RT → Prop} (hd : 4 ≤ d) (hk_15 : ∀ (x_3 : Int32) (x_4 : Int32) (y_0 : RT), k_15 x_3 x_4 y_0 → X G l m_X10_worksOut d 0 0 0 0 15 [(0, .ref a), (1, .int a0), (2, .int a1), (3, .int x_3), (4, .int x_4)] [] (put w a 22 (shM a y_0)) (fun r w2 => ∃ (r1 : Int64), ∃ (z0 : RT), r = some (.long r1) ∧ w2 = put w a 22 (shM a z0) ∧ K r1 z0)) (x_6 : Int32) (t_0 : Int32) (y_0 : RT) (hQ : jp_X10_worksOut_321 a0 a1 K k_15 x_6 t_0 y_0) : X G l m_X10_worksOut d 0 0 0 0 321 [(0, .ref a), (1, .int a0), (2, .int a1), (6, .int x_6)] [.int t_0] (put w a 22 (shM a y_0)) (fun r w2 => ∃ (r1 : Int64), ∃ (z0 : RT), r = some (.long r1) ∧ w2 = put w a 22 (shM a z0) ∧ K r1 z0) := by
  refine x_istore_n (lv2 := [(3, .int t_0), (0, .ref a), (1, .int a0), (2, .int a1), (6, .int x_6)]) d_X10_worksOut_321 rfl (by decide) rfl ?_
  refine x_iload 4 d_X10_worksOut_322 rfl ?_
  refine x_istore (lv2 := [(4, .int x_6), (3, .int t_0), (0, .ref a), (1, .int a0), (2, .int a1), (6, .int x_6)]) d_X10_worksOut_324 (by decide) rfl ?_
  refine x_goto (tgt := 15) d_X10_worksOut_326 (by decide) ?_
  refine x_sub [2, 3, 4, 1, 0] (lv2 := [(0, .ref a), (1, .int a0), (2, .int a1), (3, .int t_0), (4, .int x_6)]) rfl ?_
  exact hk_15 t_0 x_6 y_0 hQ
def jp_X10_worksOut_311 (a0 : Int32) (a1 : Int32) (K : Int64 → RT → Prop) (k_15 : Int32 → Int32 → RT → Prop) (x_6 : Int32) (x_7 : Int32) (y_0 : RT) : Prop := ((¬ x_7 = (0 : Int32) → jp_X10_worksOut_321 a0 a1 K k_15 x_6 (0 : Int32) y_0) ∧ (x_7 = (0 : Int32) → jp_X10_worksOut_321 a0 a1 K k_15 x_6 (1 : Int32) y_0))
set_option maxHeartbeats 4000000 in
theorem jt_X10_worksOut_311 {G : GX} {l : Launch} {d : Nat} {w : HW} {a : Nat} {a0 : Int32} {a1 : Int32} {K : Int64 → RT → Prop} {k_15 : Int32 → Int32 → RT → Prop} (hd : 4 ≤ d) (hk_15 : ∀ (x_3 : Int32) (x_4 : Int32) (y_0 : RT), k_15 x_3 x_4 y_0 → X G l m_X10_worksOut d 0 0 0 0 15 [(0, .ref a), (1, .int a0), (2, .int a1), (3, .int x_3), (4, .int x_4)] [] (put w a 22 (shM a y_0)) (fun r w2 => ∃ (r1 : Int64), ∃ (z0 : RT), r = some (.long r1) ∧ w2 = put w a 22 (shM a z0) ∧ K r1 z0)) (x_6 : Int32) (x_7 : Int32) (y_0 : RT) (hQ : jp_X10_worksOut_311 a0 a1 K k_15 x_6 x_7 y_0) : X G l m_X10_worksOut d 0 0 0 0 311 [(0, .ref a), (1, .int a0), (2, .int a1), (6, .int x_6), (7, .int x_7)] [] (put w a 22 (shM a y_0)) (fun r w2 => ∃ (r1 : Int64), ∃ (z0 : RT), r = some (.long r1) ∧ w2 = put w a 22 (shM a z0) ∧ K r1 z0) := by
  refine x_iload 4 d_X10_worksOut_311 rfl ?_
  refine x_if_ne (tgt := 320) d_X10_worksOut_313 (by decide) (fun c_313_16 => ?_) (fun c_313_16 => ?_)
  · have hQ := hQ.1 c_313_16
    refine x_iconst (v := (0 : Int32)) d_X10_worksOut_320 (by decide) ?_
    refine x_sub [0, 1, 2, 3] (lv2 := [(0, .ref a), (1, .int a0), (2, .int a1), (6, .int x_6)]) rfl ?_
    exact jt_X10_worksOut_321 hd hk_15 x_6 (0 : Int32) y_0 hQ
  · have hQ := hQ.2 c_313_16
    refine x_iconst (v := (1 : Int32)) d_X10_worksOut_316 (by decide) ?_
    refine x_goto (tgt := 321) d_X10_worksOut_317 (by decide) ?_
    refine x_sub [0, 1, 2, 3] (lv2 := [(0, .ref a), (1, .int a0), (2, .int a1), (6, .int x_6)]) rfl ?_
    exact jt_X10_worksOut_321 hd hk_15 x_6 (1 : Int32) y_0 hQ
def jp_X10_worksOut_307 (a0 : Int32) (a1 : Int32) (K : Int64 → RT → Prop) (k_15 : Int32 → Int32 → RT → Prop) (x_3 : Int32) (x_6 : Int32) (x_7 : Int32) (t_0 : Int32) (y_0 : RT) : Prop := wp_X10_opens y_0 t_0 x_3 (fun (s15 : RT) => jp_X10_worksOut_311 a0 a1 K k_15 x_6 x_7 s15)
set_option maxHeartbeats 4000000 in
theorem jt_X10_worksOut_307 {G : GX} {l : Launch} {d : Nat} {w : HW} {a : Nat} {a0 : Int32} {a1 : Int32} {K : Int64 → RT → Prop} {k_15 : Int32 → Int32 → RT → Prop} (hd : 4 ≤ d) (hk_15 : ∀ (x_3 : Int32) (x_4 : Int32) (y_0 : RT), k_15 x_3 x_4 y_0 → X G l m_X10_worksOut d 0 0 0 0 15 [(0, .ref a), (1, .int a0), (2, .int a1), (3, .int x_3), (4, .int x_4)] [] (put w a 22 (shM a y_0)) (fun r w2 => ∃ (r1 : Int64), ∃ (z0 : RT), r = some (.long r1) ∧ w2 = put w a 22 (shM a z0) ∧ K r1 z0)) (x_3 : Int32) (x_6 : Int32) (x_7 : Int32) (t_0 : Int32) (y_0 : RT) (hQ : jp_X10_worksOut_307 a0 a1 K k_15 x_3 x_6 x_7 t_0 y_0) : X G l m_X10_worksOut d 0 0 0 0 307 [(0, .ref a), (1, .int a0), (2, .int a1), (3, .int x_3), (6, .int x_6), (7, .int x_7)] [.int t_0, .ref a] (put w a 22 (shM a y_0)) (fun r w2 => ∃ (r1 : Int64), ∃ (z0 : RT), r = some (.long r1) ∧ w2 = put w a 22 (shM a z0) ∧ K r1 z0) := by
  refine x_iload_n 3 d_X10_worksOut_307 rfl rfl ?_
  refine x_invV (rest := []) (d' := d - 1) (mc' := 0) (ms' := 0) [.int t_0, .int x_3] k_X10_opens lk_X10_258 gM_0 rfl rfl rfl (Nat.le_of_ble_eq_true rfl) (by omega) (Nat.le_refl _) (Nat.le_refl _) d_X10_worksOut_308 ((sp_X10_opens (d := d - 1) (by omega) hQ).mono (fun r w2 hr => ?_))
  obtain ⟨s15, rfl, rfl, hQ⟩ := hr
  refine x_sub [0, 1, 2, 4, 5] (lv2 := [(0, .ref a), (1, .int a0), (2, .int a1), (6, .int x_6), (7, .int x_7)]) rfl ?_
  exact jt_X10_worksOut_311 hd hk_15 x_6 x_7 s15 hQ
def jp_X10_worksOut_283 (a0 : Int32) (a1 : Int32) (K : Int64 → RT → Prop) (k_15 : Int32 → Int32 → RT → Prop) (x_3 : Int32) (x_4 : Int32) (x_5 : Int32) (x_7 : Int32) (t_0 : Int32) (y_0 : RT) : Prop := ((¬ x_5 = (109 : Int32) → jp_X10_worksOut_307 a0 a1 K k_15 x_3 t_0 x_7 x_5 y_0) ∧ (x_5 = (109 : Int32) → wp_X10_rightLetter y_0 a0 (x_4 + (1 : Int32)) (fun (r17 : Int32) => jp_X10_worksOut_307 a0 a1 K k_15 x_3 t_0 x_7 r17 y_0)))
set_option maxHeartbeats 4000000 in
theorem jt_X10_worksOut_283 {G : GX} {l : Launch} {d : Nat} {w : HW} {a : Nat} {a0 : Int32} {a1 : Int32} {K : Int64 → RT → Prop} {k_15 : Int32 → Int32 → RT → Prop} (hd : 4 ≤ d) (hk_15 : ∀ (x_3 : Int32) (x_4 : Int32) (y_0 : RT), k_15 x_3 x_4 y_0 → X G l m_X10_worksOut d 0 0 0 0 15 [(0, .ref a), (1, .int a0), (2, .int a1), (3, .int x_3), (4, .int x_4)] [] (put w a 22 (shM a y_0)) (fun r w2 => ∃ (r1 : Int64), ∃ (z0 : RT), r = some (.long r1) ∧ w2 = put w a 22 (shM a z0) ∧ K r1 z0)) (x_3 : Int32) (x_4 : Int32) (x_5 : Int32) (x_7 : Int32) (t_0 : Int32) (y_0 : RT) (hQ : jp_X10_worksOut_283 a0 a1 K k_15 x_3 x_4 x_5 x_7 t_0 y_0) : X G l m_X10_worksOut d 0 0 0 0 283 [(0, .ref a), (1, .int a0), (2, .int a1), (3, .int x_3), (4, .int x_4), (5, .int x_5), (7, .int x_7)] [.int t_0] (put w a 22 (shM a y_0)) (fun r w2 => ∃ (r1 : Int64), ∃ (z0 : RT), r = some (.long r1) ∧ w2 = put w a 22 (shM a z0) ∧ K r1 z0) := by
  refine x_istore (lv2 := [(6, .int t_0), (0, .ref a), (1, .int a0), (2, .int a1), (3, .int x_3), (4, .int x_4), (5, .int x_5), (7, .int x_7)]) d_X10_worksOut_283 (by decide) rfl ?_
  refine x_aload_n 1 d_X10_worksOut_285 rfl rfl ?_
  refine x_iload 6 d_X10_worksOut_286 rfl ?_
  refine x_bipush (v := (109 : Int32)) d_X10_worksOut_288 (by decide) ?_
  refine x_icmp_ne (tgt := 305) d_X10_worksOut_290 (by decide) (fun c_290_14 => ?_) (fun c_290_14 => ?_)
  · have hQ := hQ.1 c_290_14
    refine x_iload 6 d_X10_worksOut_305 rfl ?_
    refine x_sub [1, 2, 3, 4, 0, 7] (lv2 := [(0, .ref a), (1, .int a0), (2, .int a1), (3, .int x_3), (6, .int t_0), (7, .int x_7)]) rfl ?_
    exact jt_X10_worksOut_307 hd hk_15 x_3 t_0 x_7 x_5 y_0 hQ
  · have hQ := hQ.2 c_290_14
    refine x_aload_n 1 d_X10_worksOut_293 rfl rfl ?_
    refine x_iload_n 2 d_X10_worksOut_294 rfl rfl ?_
    refine x_iload 5 d_X10_worksOut_295 rfl ?_
    refine x_iconst (v := (1 : Int32)) d_X10_worksOut_297 (by decide) ?_
    refine x_iadd d_X10_worksOut_298 ?_
    refine x_invV (rest := [.ref a]) (d' := d - 1) (mc' := 0) (ms' := 0) [.int a0, .int (x_4 + (1 : Int32))] k_X10_rightLetter lk_X10_130 gM_0 rfl rfl rfl (Nat.le_of_ble_eq_true rfl) (by omega) (Nat.le_refl _) (Nat.le_refl _) d_X10_worksOut_299 ((sp_X10_rightLetter (d := d - 1) (by omega) hQ).mono (fun r w2 hr => ?_))
    obtain ⟨r17, rfl, rfl, hQ⟩ := hr
    refine x_goto (tgt := 307) d_X10_worksOut_302 (by decide) ?_
    refine x_sub [1, 2, 3, 4, 0, 7] (lv2 := [(0, .ref a), (1, .int a0), (2, .int a1), (3, .int x_3), (6, .int t_0), (7, .int x_7)]) rfl ?_
    exact jt_X10_worksOut_307 hd hk_15 x_3 t_0 x_7 r17 y_0 hQ
def jp_X10_worksOut_243 (a0 : Int32) (a1 : Int32) (K : Int64 → RT → Prop) (k_15 : Int32 → Int32 → RT → Prop) (x_7 : Int32) (t_0 : Int32) (y_0 : RT) : Prop := jp_X10_worksOut_311 a0 a1 K k_15 t_0 x_7 y_0
set_option maxHeartbeats 4000000 in
theorem jt_X10_worksOut_243 {G : GX} {l : Launch} {d : Nat} {w : HW} {a : Nat} {a0 : Int32} {a1 : Int32} {K : Int64 → RT → Prop} {k_15 : Int32 → Int32 → RT → Prop} (hd : 4 ≤ d) (hk_15 : ∀ (x_3 : Int32) (x_4 : Int32) (y_0 : RT), k_15 x_3 x_4 y_0 → X G l m_X10_worksOut d 0 0 0 0 15 [(0, .ref a), (1, .int a0), (2, .int a1), (3, .int x_3), (4, .int x_4)] [] (put w a 22 (shM a y_0)) (fun r w2 => ∃ (r1 : Int64), ∃ (z0 : RT), r = some (.long r1) ∧ w2 = put w a 22 (shM a z0) ∧ K r1 z0)) (x_7 : Int32) (t_0 : Int32) (y_0 : RT) (hQ : jp_X10_worksOut_243 a0 a1 K k_15 x_7 t_0 y_0) : X G l m_X10_worksOut d 0 0 0 0 243 [(0, .ref a), (1, .int a0), (2, .int a1), (7, .int x_7)] [.int t_0] (put w a 22 (shM a y_0)) (fun r w2 => ∃ (r1 : Int64), ∃ (z0 : RT), r = some (.long r1) ∧ w2 = put w a 22 (shM a z0) ∧ K r1 z0) := by
  refine x_istore (lv2 := [(6, .int t_0), (0, .ref a), (1, .int a0), (2, .int a1), (7, .int x_7)]) d_X10_worksOut_243 (by decide) rfl ?_
  refine x_goto (tgt := 311) d_X10_worksOut_245 (by decide) ?_
  refine x_sub [1, 2, 3, 0, 4] (lv2 := [(0, .ref a), (1, .int a0), (2, .int a1), (6, .int t_0), (7, .int x_7)]) rfl ?_
  exact jt_X10_worksOut_311 hd hk_15 t_0 x_7 y_0 hQ
def jp_X10_worksOut_224 (a0 : Int32) (a1 : Int32) (K : Int64 → RT → Prop) (k_15 : Int32 → Int32 → RT → Prop) (x_4 : Int32) (x_7 : Int32) (x_9 : Int32) (x_10 : Int32) (t_0 : Int64) (y_0 : RT) : Prop := wp_X10_puts y_0 t_0 (fun (s27 : RT) => ((x_10 = (0 : Int32) → jp_X10_worksOut_243 a0 a1 K k_15 x_7 (x_4 + (1 : Int32)) s27) ∧ (¬ x_10 = (0 : Int32) → jp_X10_worksOut_243 a0 a1 K k_15 x_7 (x_9 + (2 : Int32)) s27)))
set_option maxHeartbeats 4000000 in
theorem jt_X10_worksOut_224 {G : GX} {l : Launch} {d : Nat} {w : HW} {a : Nat} {a0 : Int32} {a1 : Int32} {K : Int64 → RT → Prop} {k_15 : Int32 → Int32 → RT → Prop} (hd : 4 ≤ d) (hk_15 : ∀ (x_3 : Int32) (x_4 : Int32) (y_0 : RT), k_15 x_3 x_4 y_0 → X G l m_X10_worksOut d 0 0 0 0 15 [(0, .ref a), (1, .int a0), (2, .int a1), (3, .int x_3), (4, .int x_4)] [] (put w a 22 (shM a y_0)) (fun r w2 => ∃ (r1 : Int64), ∃ (z0 : RT), r = some (.long r1) ∧ w2 = put w a 22 (shM a z0) ∧ K r1 z0)) (x_4 : Int32) (x_7 : Int32) (x_9 : Int32) (x_10 : Int32) (t_0 : Int64) (y_0 : RT) (hQ : jp_X10_worksOut_224 a0 a1 K k_15 x_4 x_7 x_9 x_10 t_0 y_0) : X G l m_X10_worksOut d 0 0 0 0 224 [(0, .ref a), (1, .int a0), (2, .int a1), (4, .int x_4), (7, .int x_7), (9, .int x_9), (10, .int x_10)] [.long t_0, .ref a] (put w a 22 (shM a y_0)) (fun r w2 => ∃ (r1 : Int64), ∃ (z0 : RT), r = some (.long r1) ∧ w2 = put w a 22 (shM a z0) ∧ K r1 z0) := by
  refine x_invV (rest := []) (d' := d - 1) (mc' := 0) (ms' := 0) [.long t_0] k_X10_puts lk_X10_242 gM_0 rfl rfl rfl (Nat.le_of_ble_eq_true rfl) (by omega) (Nat.le_refl _) (Nat.le_refl _) d_X10_worksOut_224 ((sp_X10_puts (d := d - 1) (by omega) hQ).mono (fun r w2 hr => ?_))
  obtain ⟨s27, rfl, rfl, hQ⟩ := hr
  refine x_iload 6 d_X10_worksOut_227 rfl ?_
  refine x_if_eq (tgt := 239) d_X10_worksOut_229 (by decide) (fun c_229_28 => ?_) (fun c_229_28 => ?_)
  · have hQ := hQ.1 c_229_28
    refine x_iload 3 d_X10_worksOut_239 rfl ?_
    refine x_iconst (v := (1 : Int32)) d_X10_worksOut_241 (by decide) ?_
    refine x_iadd d_X10_worksOut_242 ?_
    refine x_sub [0, 1, 2, 4] (lv2 := [(0, .ref a), (1, .int a0), (2, .int a1), (7, .int x_7)]) rfl ?_
    exact jt_X10_worksOut_243 hd hk_15 x_7 (x_4 + (1 : Int32)) s27 hQ
  · have hQ := hQ.2 c_229_28
    refine x_iload 5 d_X10_worksOut_232 rfl ?_
    refine x_iconst (v := (2 : Int32)) d_X10_worksOut_234 (by decide) ?_
    refine x_iadd d_X10_worksOut_235 ?_
    refine x_goto (tgt := 243) d_X10_worksOut_236 (by decide) ?_
    refine x_sub [0, 1, 2, 4] (lv2 := [(0, .ref a), (1, .int a0), (2, .int a1), (7, .int x_7)]) rfl ?_
    exact jt_X10_worksOut_243 hd hk_15 x_7 (x_9 + (2 : Int32)) s27 hQ
def jp_X10_worksOut_191 (a0 : Int32) (a1 : Int32) (K : Int64 → RT → Prop) (k_15 : Int32 → Int32 → RT → Prop) (x_4 : Int32) (x_5 : Int32) (x_7 : Int32) (x_8 : Int32) (x_9 : Int32) (x_10 : Int32) (t_0 : Int32) (y_0 : RT) : Prop := ((x_8 = (0 : Int32) → wp_X10_valueAt y_0 (x_5 - (120 : Int32)) t_0 (fun (r26 : Int64) => jp_X10_worksOut_224 a0 a1 K k_15 x_4 x_7 x_9 x_10 r26 y_0)) ∧ (¬ x_8 = (0 : Int32) → wp_X10_slopeAt y_0 (x_5 - (120 : Int32)) t_0 (fun (r29 : Int64) => jp_X10_worksOut_224 a0 a1 K k_15 x_4 x_7 x_9 x_10 r29 y_0)))
set_option maxHeartbeats 4000000 in
theorem jt_X10_worksOut_191 {G : GX} {l : Launch} {d : Nat} {w : HW} {a : Nat} {a0 : Int32} {a1 : Int32} {K : Int64 → RT → Prop} {k_15 : Int32 → Int32 → RT → Prop} (hd : 4 ≤ d) (hk_15 : ∀ (x_3 : Int32) (x_4 : Int32) (y_0 : RT), k_15 x_3 x_4 y_0 → X G l m_X10_worksOut d 0 0 0 0 15 [(0, .ref a), (1, .int a0), (2, .int a1), (3, .int x_3), (4, .int x_4)] [] (put w a 22 (shM a y_0)) (fun r w2 => ∃ (r1 : Int64), ∃ (z0 : RT), r = some (.long r1) ∧ w2 = put w a 22 (shM a z0) ∧ K r1 z0)) (x_4 : Int32) (x_5 : Int32) (x_7 : Int32) (x_8 : Int32) (x_9 : Int32) (x_10 : Int32) (t_0 : Int32) (y_0 : RT) (hQ : jp_X10_worksOut_191 a0 a1 K k_15 x_4 x_5 x_7 x_8 x_9 x_10 t_0 y_0) : X G l m_X10_worksOut d 0 0 0 0 191 [(0, .ref a), (1, .int a0), (2, .int a1), (4, .int x_4), (5, .int x_5), (7, .int x_7), (8, .int x_8), (9, .int x_9), (10, .int x_10)] [.int t_0] (put w a 22 (shM a y_0)) (fun r w2 => ∃ (r1 : Int64), ∃ (z0 : RT), r = some (.long r1) ∧ w2 = put w a 22 (shM a z0) ∧ K r1 z0) := by
  refine x_istore (lv2 := [(11, .int t_0), (0, .ref a), (1, .int a0), (2, .int a1), (4, .int x_4), (5, .int x_5), (7, .int x_7), (8, .int x_8), (9, .int x_9), (10, .int x_10)]) d_X10_worksOut_191 (by decide) rfl ?_
  refine x_aload_n 1 d_X10_worksOut_193 rfl rfl ?_
  refine x_iload 7 d_X10_worksOut_194 rfl ?_
  refine x_if_eq (tgt := 213) d_X10_worksOut_196 (by decide) (fun c_196_25 => ?_) (fun c_196_25 => ?_)
  · have hQ := hQ.1 c_196_25
    refine x_aload_n 1 d_X10_worksOut_213 rfl rfl ?_
    refine x_iload 5 d_X10_worksOut_214 rfl ?_
    refine x_bipush (v := (120 : Int32)) d_X10_worksOut_216 (by decide) ?_
    refine x_isub d_X10_worksOut_218 ?_
    refine x_iload 0 d_X10_worksOut_219 rfl ?_
    refine x_invV (rest := [.ref a]) (d' := d - 1) (mc' := 0) (ms' := 0) [.int (x_5 - (120 : Int32)), .int t_0] k_X10_valueAt lk_X10_252 gM_0 rfl rfl rfl (Nat.le_of_ble_eq_true rfl) (by omega) (Nat.le_refl _) (Nat.le_refl _) d_X10_worksOut_221 ((sp_X10_valueAt (d := d - 1) (by omega) hQ).mono (fun r w2 hr => ?_))
    obtain ⟨r26, rfl, rfl, hQ⟩ := hr
    refine x_sub [1, 2, 3, 4, 6, 8, 9] (lv2 := [(0, .ref a), (1, .int a0), (2, .int a1), (4, .int x_4), (7, .int x_7), (9, .int x_9), (10, .int x_10)]) rfl ?_
    exact jt_X10_worksOut_224 hd hk_15 x_4 x_7 x_9 x_10 r26 y_0 hQ
  · have hQ := hQ.2 c_196_25
    refine x_aload_n 1 d_X10_worksOut_199 rfl rfl ?_
    refine x_iload 5 d_X10_worksOut_200 rfl ?_
    refine x_bipush (v := (120 : Int32)) d_X10_worksOut_202 (by decide) ?_
    refine x_isub d_X10_worksOut_204 ?_
    refine x_iload 0 d_X10_worksOut_205 rfl ?_
    refine x_invV (rest := [.ref a]) (d' := d - 1) (mc' := 0) (ms' := 0) [.int (x_5 - (120 : Int32)), .int t_0] k_X10_slopeAt lk_X10_249 gM_0 rfl rfl rfl (Nat.le_of_ble_eq_true rfl) (by omega) (Nat.le_refl _) (Nat.le_refl _) d_X10_worksOut_207 ((sp_X10_slopeAt (d := d - 1) (by omega) hQ).mono (fun r w2 hr => ?_))
    obtain ⟨r29, rfl, rfl, hQ⟩ := hr
    refine x_goto (tgt := 224) d_X10_worksOut_210 (by decide) ?_
    refine x_sub [1, 2, 3, 4, 6, 8, 9] (lv2 := [(0, .ref a), (1, .int a0), (2, .int a1), (4, .int x_4), (7, .int x_7), (9, .int x_9), (10, .int x_10)]) rfl ?_
    exact jt_X10_worksOut_224 hd hk_15 x_4 x_7 x_9 x_10 r29 y_0 hQ
def jp_X10_worksOut_161 (a0 : Int32) (a1 : Int32) (K : Int64 → RT → Prop) (k_15 : Int32 → Int32 → RT → Prop) (x_4 : Int32) (x_5 : Int32) (x_7 : Int32) (x_8 : Int32) (x_9 : Int32) (t_0 : Int32) (y_0 : RT) : Prop := ((t_0 = (0 : Int32) → jp_X10_worksOut_191 a0 a1 K k_15 x_4 x_5 x_7 x_8 x_9 t_0 a1 y_0) ∧ (¬ t_0 = (0 : Int32) → wp_X10_rightLetter y_0 a0 (x_9 + (1 : Int32)) (fun (r30 : Int32) => wp_X10_lagAt y_0 (r30 - (48 : Int32)) a1 (fun (r31 : Int32) => jp_X10_worksOut_191 a0 a1 K k_15 x_4 x_5 x_7 x_8 x_9 t_0 (a1 - r31) y_0))))
set_option maxHeartbeats 4000000 in
theorem jt_X10_worksOut_161 {G : GX} {l : Launch} {d : Nat} {w : HW} {a : Nat} {a0 : Int32} {a1 : Int32} {K : Int64 → RT → Prop} {k_15 : Int32 → Int32 → RT → Prop} (hd : 4 ≤ d) (hk_15 : ∀ (x_3 : Int32) (x_4 : Int32) (y_0 : RT), k_15 x_3 x_4 y_0 → X G l m_X10_worksOut d 0 0 0 0 15 [(0, .ref a), (1, .int a0), (2, .int a1), (3, .int x_3), (4, .int x_4)] [] (put w a 22 (shM a y_0)) (fun r w2 => ∃ (r1 : Int64), ∃ (z0 : RT), r = some (.long r1) ∧ w2 = put w a 22 (shM a z0) ∧ K r1 z0)) (x_4 : Int32) (x_5 : Int32) (x_7 : Int32) (x_8 : Int32) (x_9 : Int32) (t_0 : Int32) (y_0 : RT) (hQ : jp_X10_worksOut_161 a0 a1 K k_15 x_4 x_5 x_7 x_8 x_9 t_0 y_0) : X G l m_X10_worksOut d 0 0 0 0 161 [(0, .ref a), (1, .int a0), (2, .int a1), (4, .int x_4), (5, .int x_5), (7, .int x_7), (8, .int x_8), (9, .int x_9)] [.int t_0] (put w a 22 (shM a y_0)) (fun r w2 => ∃ (r1 : Int64), ∃ (z0 : RT), r = some (.long r1) ∧ w2 = put w a 22 (shM a z0) ∧ K r1 z0) := by
  refine x_istore (lv2 := [(10, .int t_0), (0, .ref a), (1, .int a0), (2, .int a1), (4, .int x_4), (5, .int x_5), (7, .int x_7), (8, .int x_8), (9, .int x_9)]) d_X10_worksOut_161 (by decide) rfl ?_
  refine x_iload 0 d_X10_worksOut_163 rfl ?_
  refine x_if_eq (tgt := 190) d_X10_worksOut_165 (by decide) (fun c_165_24 => ?_) (fun c_165_24 => ?_)
  · have hQ := hQ.1 c_165_24
    refine x_iload_n 3 d_X10_worksOut_190 rfl rfl ?_
    refine x_sub [1, 2, 3, 4, 5, 6, 7, 8, 0] (lv2 := [(0, .ref a), (1, .int a0), (2, .int a1), (4, .int x_4), (5, .int x_5), (7, .int x_7), (8, .int x_8), (9, .int x_9), (10, .int t_0)]) rfl ?_
    exact jt_X10_worksOut_191 hd hk_15 x_4 x_5 x_7 x_8 x_9 t_0 a1 y_0 hQ
  · have hQ := hQ.2 c_165_24
    refine x_iload_n 3 d_X10_worksOut_168 rfl rfl ?_
    refine x_aload_n 1 d_X10_worksOut_169 rfl rfl ?_
    refine x_aload_n 1 d_X10_worksOut_170 rfl rfl ?_
    refine x_iload_n 2 d_X10_worksOut_171 rfl rfl ?_
    refine x_iload 8 d_X10_worksOut_172 rfl ?_
    refine x_iconst (v := (1 : Int32)) d_X10_worksOut_174 (by decide) ?_
    refine x_iadd d_X10_worksOut_175 ?_
    refine x_invV (rest := [.ref a, .int a1]) (d' := d - 1) (mc' := 0) (ms' := 0) [.int a0, .int (x_9 + (1 : Int32))] k_X10_rightLetter lk_X10_130 gM_0 rfl rfl rfl (Nat.le_of_ble_eq_true rfl) (by omega) (Nat.le_refl _) (Nat.le_refl _) d_X10_worksOut_176 ((sp_X10_rightLetter (d := d - 1) (by omega) hQ).mono (fun r w2 hr => ?_))
    obtain ⟨r30, rfl, rfl, hQ⟩ := hr
    refine x_bipush (v := (48 : Int32)) d_X10_worksOut_179 (by decide) ?_
    refine x_isub d_X10_worksOut_181 ?_
    refine x_iload_n 3 d_X10_worksOut_182 rfl rfl ?_
    refine x_invV (rest := [.int a1]) (d' := d - 1) (mc' := 0) (ms' := 0) [.int (r30 - (48 : Int32)), .int a1] k_X10_lagAt lk_X10_153 gM_0 rfl rfl rfl (Nat.le_of_ble_eq_true rfl) (by omega) (Nat.le_refl _) (Nat.le_refl _) d_X10_worksOut_183 ((sp_X10_lagAt (d := d - 1) (by omega) hQ).mono (fun r w2 hr => ?_))
    obtain ⟨r31, rfl, rfl, hQ⟩ := hr
    refine x_isub d_X10_worksOut_186 ?_
    refine x_goto (tgt := 191) d_X10_worksOut_187 (by decide) ?_
    refine x_sub [1, 2, 3, 4, 5, 6, 7, 8, 0] (lv2 := [(0, .ref a), (1, .int a0), (2, .int a1), (4, .int x_4), (5, .int x_5), (7, .int x_7), (8, .int x_8), (9, .int x_9), (10, .int t_0)]) rfl ?_
    exact jt_X10_worksOut_191 hd hk_15 x_4 x_5 x_7 x_8 x_9 t_0 (a1 - r31) y_0 hQ
def jp_X10_worksOut_142 (a0 : Int32) (a1 : Int32) (K : Int64 → RT → Prop) (k_15 : Int32 → Int32 → RT → Prop) (x_4 : Int32) (x_5 : Int32) (x_7 : Int32) (x_8 : Int32) (t_0 : Int32) (y_0 : RT) : Prop := wp_X10_rightLetter y_0 a0 t_0 (fun (r22 : Int32) => ((¬ r22 = (64 : Int32) → jp_X10_worksOut_161 a0 a1 K k_15 x_4 x_5 x_7 x_8 t_0 (0 : Int32) y_0) ∧ (r22 = (64 : Int32) → jp_X10_worksOut_161 a0 a1 K k_15 x_4 x_5 x_7 x_8 t_0 (1 : Int32) y_0)))
set_option maxHeartbeats 4000000 in
theorem jt_X10_worksOut_142 {G : GX} {l : Launch} {d : Nat} {w : HW} {a : Nat} {a0 : Int32} {a1 : Int32} {K : Int64 → RT → Prop} {k_15 : Int32 → Int32 → RT → Prop} (hd : 4 ≤ d) (hk_15 : ∀ (x_3 : Int32) (x_4 : Int32) (y_0 : RT), k_15 x_3 x_4 y_0 → X G l m_X10_worksOut d 0 0 0 0 15 [(0, .ref a), (1, .int a0), (2, .int a1), (3, .int x_3), (4, .int x_4)] [] (put w a 22 (shM a y_0)) (fun r w2 => ∃ (r1 : Int64), ∃ (z0 : RT), r = some (.long r1) ∧ w2 = put w a 22 (shM a z0) ∧ K r1 z0)) (x_4 : Int32) (x_5 : Int32) (x_7 : Int32) (x_8 : Int32) (t_0 : Int32) (y_0 : RT) (hQ : jp_X10_worksOut_142 a0 a1 K k_15 x_4 x_5 x_7 x_8 t_0 y_0) : X G l m_X10_worksOut d 0 0 0 0 142 [(0, .ref a), (1, .int a0), (2, .int a1), (4, .int x_4), (5, .int x_5), (7, .int x_7), (8, .int x_8)] [.int t_0] (put w a 22 (shM a y_0)) (fun r w2 => ∃ (r1 : Int64), ∃ (z0 : RT), r = some (.long r1) ∧ w2 = put w a 22 (shM a z0) ∧ K r1 z0) := by
  refine x_istore (lv2 := [(9, .int t_0), (0, .ref a), (1, .int a0), (2, .int a1), (4, .int x_4), (5, .int x_5), (7, .int x_7), (8, .int x_8)]) d_X10_worksOut_142 (by decide) rfl ?_
  refine x_aload_n 1 d_X10_worksOut_144 rfl rfl ?_
  refine x_iload_n 2 d_X10_worksOut_145 rfl rfl ?_
  refine x_iload 0 d_X10_worksOut_146 rfl ?_
  refine x_invV (rest := []) (d' := d - 1) (mc' := 0) (ms' := 0) [.int a0, .int t_0] k_X10_rightLetter lk_X10_130 gM_0 rfl rfl rfl (Nat.le_of_ble_eq_true rfl) (by omega) (Nat.le_refl _) (Nat.le_refl _) d_X10_worksOut_148 ((sp_X10_rightLetter (d := d - 1) (by omega) hQ).mono (fun r w2 hr => ?_))
  obtain ⟨r22, rfl, rfl, hQ⟩ := hr
  refine x_bipush (v := (64 : Int32)) d_X10_worksOut_151 (by decide) ?_
  refine x_icmp_ne (tgt := 160) d_X10_worksOut_153 (by decide) (fun c_153_23 => ?_) (fun c_153_23 => ?_)
  · have hQ := hQ.1 c_153_23
    refine x_iconst (v := (0 : Int32)) d_X10_worksOut_160 (by decide) ?_
    refine x_sub [1, 2, 3, 4, 5, 6, 7, 0] (lv2 := [(0, .ref a), (1, .int a0), (2, .int a1), (4, .int x_4), (5, .int x_5), (7, .int x_7), (8, .int x_8), (9, .int t_0)]) rfl ?_
    exact jt_X10_worksOut_161 hd hk_15 x_4 x_5 x_7 x_8 t_0 (0 : Int32) y_0 hQ
  · have hQ := hQ.2 c_153_23
    refine x_iconst (v := (1 : Int32)) d_X10_worksOut_156 (by decide) ?_
    refine x_goto (tgt := 161) d_X10_worksOut_157 (by decide) ?_
    refine x_sub [1, 2, 3, 4, 5, 6, 7, 0] (lv2 := [(0, .ref a), (1, .int a0), (2, .int a1), (4, .int x_4), (5, .int x_5), (7, .int x_7), (8, .int x_8), (9, .int t_0)]) rfl ?_
    exact jt_X10_worksOut_161 hd hk_15 x_4 x_5 x_7 x_8 t_0 (1 : Int32) y_0 hQ
def jp_X10_worksOut_124 (a0 : Int32) (a1 : Int32) (K : Int64 → RT → Prop) (k_15 : Int32 → Int32 → RT → Prop) (x_4 : Int32) (x_5 : Int32) (x_7 : Int32) (t_0 : Int32) (y_0 : RT) : Prop := ((t_0 = (0 : Int32) → jp_X10_worksOut_142 a0 a1 K k_15 x_4 x_5 x_7 t_0 (x_4 + (1 : Int32)) y_0) ∧ (¬ t_0 = (0 : Int32) → jp_X10_worksOut_142 a0 a1 K k_15 x_4 x_5 x_7 t_0 (x_4 + (2 : Int32)) y_0))
set_option maxHeartbeats 4000000 in
theorem jt_X10_worksOut_124 {G : GX} {l : Launch} {d : Nat} {w : HW} {a : Nat} {a0 : Int32} {a1 : Int32} {K : Int64 → RT → Prop} {k_15 : Int32 → Int32 → RT → Prop} (hd : 4 ≤ d) (hk_15 : ∀ (x_3 : Int32) (x_4 : Int32) (y_0 : RT), k_15 x_3 x_4 y_0 → X G l m_X10_worksOut d 0 0 0 0 15 [(0, .ref a), (1, .int a0), (2, .int a1), (3, .int x_3), (4, .int x_4)] [] (put w a 22 (shM a y_0)) (fun r w2 => ∃ (r1 : Int64), ∃ (z0 : RT), r = some (.long r1) ∧ w2 = put w a 22 (shM a z0) ∧ K r1 z0)) (x_4 : Int32) (x_5 : Int32) (x_7 : Int32) (t_0 : Int32) (y_0 : RT) (hQ : jp_X10_worksOut_124 a0 a1 K k_15 x_4 x_5 x_7 t_0 y_0) : X G l m_X10_worksOut d 0 0 0 0 124 [(0, .ref a), (1, .int a0), (2, .int a1), (4, .int x_4), (5, .int x_5), (7, .int x_7)] [.int t_0] (put w a 22 (shM a y_0)) (fun r w2 => ∃ (r1 : Int64), ∃ (z0 : RT), r = some (.long r1) ∧ w2 = put w a 22 (shM a z0) ∧ K r1 z0) := by
  refine x_istore (lv2 := [(8, .int t_0), (0, .ref a), (1, .int a0), (2, .int a1), (4, .int x_4), (5, .int x_5), (7, .int x_7)]) d_X10_worksOut_124 (by decide) rfl ?_
  refine x_iload 0 d_X10_worksOut_126 rfl ?_
  refine x_if_eq (tgt := 138) d_X10_worksOut_128 (by decide) (fun c_128_21 => ?_) (fun c_128_21 => ?_)
  · have hQ := hQ.1 c_128_21
    refine x_iload 4 d_X10_worksOut_138 rfl ?_
    refine x_iconst (v := (1 : Int32)) d_X10_worksOut_140 (by decide) ?_
    refine x_iadd d_X10_worksOut_141 ?_
    refine x_sub [1, 2, 3, 4, 5, 6, 0] (lv2 := [(0, .ref a), (1, .int a0), (2, .int a1), (4, .int x_4), (5, .int x_5), (7, .int x_7), (8, .int t_0)]) rfl ?_
    exact jt_X10_worksOut_142 hd hk_15 x_4 x_5 x_7 t_0 (x_4 + (1 : Int32)) y_0 hQ
  · have hQ := hQ.2 c_128_21
    refine x_iload 4 d_X10_worksOut_131 rfl ?_
    refine x_iconst (v := (2 : Int32)) d_X10_worksOut_133 (by decide) ?_
    refine x_iadd d_X10_worksOut_134 ?_
    refine x_goto (tgt := 142) d_X10_worksOut_135 (by decide) ?_
    refine x_sub [1, 2, 3, 4, 5, 6, 0] (lv2 := [(0, .ref a), (1, .int a0), (2, .int a1), (4, .int x_4), (5, .int x_5), (7, .int x_7), (8, .int t_0)]) rfl ?_
    exact jt_X10_worksOut_142 hd hk_15 x_4 x_5 x_7 t_0 (x_4 + (2 : Int32)) y_0 hQ
def lp_X10_worksOut_15 (a0 : Int32) (a1 : Int32) (K : Int64 → RT → Prop) : Nat → Int32 → Int32 → RT → Prop
  | 0, _, _, _ => False
  | n + 1, x_3, x_4, y_0 => vp_in ((48 : Int32) + ((81 : Int32) * a0)) 812 ∧ (((y_0.1 1 ((48 : Int32) + ((81 : Int32) * a0)).toNatClampNeg) ≤ x_4 → wp_X10_carriesAll y_0 (1 : Int32) (fun (s4 : RT) => vp_in (0 : Int32) 80 ∧ K (s4.2.1 20 (0 : Int32).toNatClampNeg) s4)) ∧ (¬ (y_0.1 1 ((48 : Int32) + ((81 : Int32) * a0)).toNatClampNeg) ≤ x_4 → wp_X10_rightLetter y_0 a0 x_4 (fun (r5 : Int32) => ∀ x6 : Int32, x6 = x_4 + (1 : Int32) → wp_X10_isDigit r5 (fun (r7 : Int32) => ((r7 = (0 : Int32) → ((¬ r5 = (116 : Int32) → wp_X10_isName r5 (fun (r10 : Int32) => ((r10 = (0 : Int32) → ((¬ r5 = (41 : Int32) → ((¬ r5 = (109 : Int32) → jp_X10_worksOut_283 a0 a1 K (fun v0 v1 v2 => lp_X10_worksOut_15 a0 a1 K n v0 v1 v2) x_3 x_4 r5 (0 : Int32) (x_4 + (1 : Int32)) y_0) ∧ (r5 = (109 : Int32) → jp_X10_worksOut_283 a0 a1 K (fun v0 v1 v2 => lp_X10_worksOut_15 a0 a1 K n v0 v1 v2) x_3 x_4 r5 (0 : Int32) (x_4 + (4 : Int32)) y_0))) ∧ (r5 = (41 : Int32) → wp_X10_shuts y_0 (fun (s18 : RT) => jp_X10_worksOut_311 a0 a1 K (fun v0 v1 v2 => lp_X10_worksOut_15 a0 a1 K n v0 v1 v2) x6 (1 : Int32) s18)))) ∧ (¬ r10 = (0 : Int32) → wp_X10_rightLetter y_0 a0 (x_4 + (1 : Int32)) (fun (r19 : Int32) => ((¬ r19 = (39 : Int32) → jp_X10_worksOut_124 a0 a1 K (fun v0 v1 v2 => lp_X10_worksOut_15 a0 a1 K n v0 v1 v2) x_4 r5 (1 : Int32) (0 : Int32) y_0) ∧ (r19 = (39 : Int32) → jp_X10_worksOut_124 a0 a1 K (fun v0 v1 v2 => lp_X10_worksOut_15 a0 a1 K n v0 v1 v2) x_4 r5 (1 : Int32) (1 : Int32) y_0))))))) ∧ (r5 = (116 : Int32) → wp_X10_puts y_0 (a1.toInt64) (fun (s32 : RT) => jp_X10_worksOut_311 a0 a1 K (fun v0 v1 v2 => lp_X10_worksOut_15 a0 a1 K n v0 v1 v2) x6 (1 : Int32) s32)))) ∧ (¬ r7 = (0 : Int32) → wp_X10_numberAt y_0 a0 x_4 (fun (r33 : Int64) => wp_X10_puts y_0 r33 (fun (s34 : RT) => wp_X10_behindNumber s34 a0 x_4 (fun (r35 : Int32) => jp_X10_worksOut_311 a0 a1 K (fun v0 v1 v2 => lp_X10_worksOut_15 a0 a1 K n v0 v1 v2) r35 (1 : Int32) s34)))))))))
set_option maxHeartbeats 4000000 in
theorem jt_X10_worksOut_15 {G : GX} {l : Launch} {d : Nat} {w : HW} {a : Nat} {a0 : Int32} {a1 : Int32} {K : Int64 → RT → Prop} (hd : 4 ≤ d) : ∀ (n : Nat) (x_3 : Int32) (x_4 : Int32) (y_0 : RT), lp_X10_worksOut_15 a0 a1 K n x_3 x_4 y_0 → X G l m_X10_worksOut d 0 0 0 0 15 [(0, .ref a), (1, .int a0), (2, .int a1), (3, .int x_3), (4, .int x_4)] [] (put w a 22 (shM a y_0)) (fun r w2 => ∃ (r1 : Int64), ∃ (z0 : RT), r = some (.long r1) ∧ w2 = put w a 22 (shM a z0) ∧ K r1 z0) := by
  intro n
  induction n with
  | zero =>
    intro x_3 x_4 y_0 hQ
    exact hQ.elim
  | succ n ih =>
    intro x_3 x_4 y_0 hQ
    refine x_iload 4 d_X10_worksOut_15 rfl ?_
    refine x_aload_n 0 d_X10_worksOut_17 rfl rfl ?_
    refine x_getf 0 gf_X10_7 gM_0 rfl d_X10_worksOut_18 ?_
    refine x_bipush (v := (48 : Int32)) d_X10_worksOut_21 (by decide) ?_
    refine x_bipush (v := (81 : Int32)) d_X10_worksOut_23 (by decide) ?_
    refine x_iload_n 1 d_X10_worksOut_25 rfl rfl ?_
    refine x_imul d_X10_worksOut_26 ?_
    refine x_iadd d_X10_worksOut_27 ?_
    have hN := hQ.1
    have hQ := hQ.2
    refine x_iald gM_1 hN d_X10_worksOut_28 ?_
    refine x_icmp_ge (tgt := 329) d_X10_worksOut_29 (by decide) (fun c_29_3 => ?_) (fun c_29_3 => ?_)
    · have hQ := hQ.1 c_29_3
      refine x_aload_n 0 d_X10_worksOut_329 rfl rfl ?_
      refine x_iconst (v := (1 : Int32)) d_X10_worksOut_330 (by decide) ?_
      refine x_invV (rest := []) (d' := d - 1) (mc' := 0) (ms' := 0) [.int (1 : Int32)] k_X10_carriesAll lk_X10_231 gM_0 rfl rfl rfl (Nat.le_of_ble_eq_true rfl) (by omega) (Nat.le_refl _) (Nat.le_refl _) d_X10_worksOut_331 ((sp_X10_carriesAll (d := d - 1) (by omega) hQ).mono (fun r w2 hr => ?_))
      obtain ⟨s4, rfl, rfl, hQ⟩ := hr
      refine x_aload_n 0 d_X10_worksOut_334 rfl rfl ?_
      refine x_getf 27 gf_X10_68 gM_0 rfl d_X10_worksOut_335 ?_
      refine x_iconst (v := (0 : Int32)) d_X10_worksOut_338 (by decide) ?_
      have hN := hQ.1
      have hQ := hQ.2
      refine x_lald gM_20 hN d_X10_worksOut_339 ?_
      exact x_lret (retL d_X10_worksOut_340 rfl) ⟨_, _, rfl, rfl, hQ⟩
    · have hQ := hQ.2 c_29_3
      refine x_aload_n 0 d_X10_worksOut_32 rfl rfl ?_
      refine x_iload_n 1 d_X10_worksOut_33 rfl rfl ?_
      refine x_iload 4 d_X10_worksOut_34 rfl ?_
      refine x_invV (rest := []) (d' := d - 1) (mc' := 0) (ms' := 0) [.int a0, .int x_4] k_X10_rightLetter lk_X10_130 gM_0 rfl rfl rfl (Nat.le_of_ble_eq_true rfl) (by omega) (Nat.le_refl _) (Nat.le_refl _) d_X10_worksOut_36 ((sp_X10_rightLetter (d := d - 1) (by omega) hQ).mono (fun r w2 hr => ?_))
      obtain ⟨r5, rfl, rfl, hQ⟩ := hr
      refine x_istore (lv2 := [(5, .int r5), (0, .ref a), (1, .int a0), (2, .int a1), (3, .int x_3), (4, .int x_4)]) d_X10_worksOut_39 (by decide) rfl ?_
      refine x_iload 5 d_X10_worksOut_41 rfl ?_
      refine x_iconst (v := (1 : Int32)) d_X10_worksOut_43 (by decide) ?_
      refine x_iadd d_X10_worksOut_44 ?_
      refine x_topi (fun x6 e_x6 => ?_)
      have hQ := hQ x6 e_x6
      refine x_istore (lv2 := [(6, .int x6), (5, .int r5), (0, .ref a), (1, .int a0), (2, .int a1), (3, .int x_3), (4, .int x_4)]) d_X10_worksOut_45 (by decide) rfl ?_
      refine x_iconst (v := (1 : Int32)) d_X10_worksOut_47 (by decide) ?_
      refine x_istore (lv2 := [(7, .int (1 : Int32)), (6, .int x6), (5, .int r5), (0, .ref a), (1, .int a0), (2, .int a1), (3, .int x_3), (4, .int x_4)]) d_X10_worksOut_48 (by decide) rfl ?_
      refine x_iload 2 d_X10_worksOut_50 rfl ?_
      refine x_invS (rest := []) (d' := d - 1) (mc' := 0) (ms' := 0) [.int r5] k_X10_isDigit lk_X10_105 rfl rfl (Nat.le_of_ble_eq_true rfl) (by omega) (Nat.le_refl _) (Nat.le_refl _) d_X10_worksOut_52 ((sp_X10_isDigit (d := d - 1) (by omega) hQ).mono (fun r w2 hr => ?_))
      obtain ⟨r7, rfl, rfl, hQ⟩ := hr
      refine x_if_eq (tgt := 81) d_X10_worksOut_55 (by decide) (fun c_55_8 => ?_) (fun c_55_8 => ?_)
      · have hQ := hQ.1 c_55_8
        refine x_iload 2 d_X10_worksOut_81 rfl ?_
        refine x_bipush (v := (116 : Int32)) d_X10_worksOut_83 (by decide) ?_
        refine x_icmp_ne (tgt := 97) d_X10_worksOut_85 (by decide) (fun c_85_9 => ?_) (fun c_85_9 => ?_)
        · have hQ := hQ.1 c_85_9
          refine x_iload 2 d_X10_worksOut_97 rfl ?_
          refine x_invS (rest := []) (d' := d - 1) (mc' := 0) (ms' := 0) [.int r5] k_X10_isName lk_X10_113 rfl rfl (Nat.le_of_ble_eq_true rfl) (by omega) (Nat.le_refl _) (Nat.le_refl _) d_X10_worksOut_99 ((sp_X10_isName (d := d - 1) (by omega) hQ).mono (fun r w2 hr => ?_))
          obtain ⟨r10, rfl, rfl, hQ⟩ := hr
          refine x_if_eq (tgt := 248) d_X10_worksOut_102 (by decide) (fun c_102_11 => ?_) (fun c_102_11 => ?_)
          · have hQ := hQ.1 c_102_11
            refine x_iload 2 d_X10_worksOut_248 rfl ?_
            refine x_bipush (v := (41 : Int32)) d_X10_worksOut_250 (by decide) ?_
            refine x_icmp_ne (tgt := 262) d_X10_worksOut_252 (by decide) (fun c_252_12 => ?_) (fun c_252_12 => ?_)
            · have hQ := hQ.1 c_252_12
              refine x_iconst (v := (0 : Int32)) d_X10_worksOut_262 (by decide) ?_
              refine x_istore (lv2 := [(7, .int (0 : Int32)), (6, .int x6), (5, .int r5), (0, .ref a), (1, .int a0), (2, .int a1), (3, .int x_3), (4, .int x_4)]) d_X10_worksOut_263 (by decide) rfl ?_
              refine x_iload 2 d_X10_worksOut_265 rfl ?_
              refine x_bipush (v := (109 : Int32)) d_X10_worksOut_267 (by decide) ?_
              refine x_icmp_ne (tgt := 279) d_X10_worksOut_269 (by decide) (fun c_269_13 => ?_) (fun c_269_13 => ?_)
              · have hQ := hQ.1 c_269_13
                refine x_iload 7 d_X10_worksOut_279 rfl ?_
                refine x_iconst (v := (1 : Int32)) d_X10_worksOut_281 (by decide) ?_
                refine x_iadd d_X10_worksOut_282 ?_
                refine x_sub [3, 4, 5, 6, 7, 2, 0] (lv2 := [(0, .ref a), (1, .int a0), (2, .int a1), (3, .int x_3), (4, .int x_4), (5, .int r5), (7, .int (0 : Int32))]) rfl ?_
                exact jt_X10_worksOut_283 hd ih x_3 x_4 r5 (0 : Int32) (x_4 + (1 : Int32)) y_0 hQ
              · have hQ := hQ.2 c_269_13
                refine x_iload 7 d_X10_worksOut_272 rfl ?_
                refine x_iconst (v := (4 : Int32)) d_X10_worksOut_274 (by decide) ?_
                refine x_iadd d_X10_worksOut_275 ?_
                refine x_goto (tgt := 283) d_X10_worksOut_276 (by decide) ?_
                refine x_sub [3, 4, 5, 6, 7, 2, 0] (lv2 := [(0, .ref a), (1, .int a0), (2, .int a1), (3, .int x_3), (4, .int x_4), (5, .int r5), (7, .int (0 : Int32))]) rfl ?_
                exact jt_X10_worksOut_283 hd ih x_3 x_4 r5 (0 : Int32) (x_4 + (4 : Int32)) y_0 hQ
            · have hQ := hQ.2 c_252_12
              refine x_aload_n 3 d_X10_worksOut_255 rfl rfl ?_
              refine x_invV (rest := []) (d' := d - 1) (mc' := 0) (ms' := 0) [] k_X10_shuts lk_X10_255 gM_0 rfl rfl rfl (Nat.le_of_ble_eq_true rfl) (by omega) (Nat.le_refl _) (Nat.le_refl _) d_X10_worksOut_256 ((sp_X10_shuts (d := d - 1) (by omega) hQ).mono (fun r w2 hr => ?_))
              obtain ⟨s18, rfl, rfl, hQ⟩ := hr
              refine x_goto (tgt := 311) d_X10_worksOut_259 (by decide) ?_
              refine x_sub [3, 4, 5, 1, 0] (lv2 := [(0, .ref a), (1, .int a0), (2, .int a1), (6, .int x6), (7, .int (1 : Int32))]) rfl ?_
              exact jt_X10_worksOut_311 hd ih x6 (1 : Int32) s18 hQ
          · have hQ := hQ.2 c_102_11
            refine x_aload_n 3 d_X10_worksOut_105 rfl rfl ?_
            refine x_iload_n 4 d_X10_worksOut_106 rfl rfl ?_
            refine x_iload 7 d_X10_worksOut_107 rfl ?_
            refine x_iconst (v := (1 : Int32)) d_X10_worksOut_109 (by decide) ?_
            refine x_iadd d_X10_worksOut_110 ?_
            refine x_invV (rest := []) (d' := d - 1) (mc' := 0) (ms' := 0) [.int a0, .int (x_4 + (1 : Int32))] k_X10_rightLetter lk_X10_130 gM_0 rfl rfl rfl (Nat.le_of_ble_eq_true rfl) (by omega) (Nat.le_refl _) (Nat.le_refl _) d_X10_worksOut_111 ((sp_X10_rightLetter (d := d - 1) (by omega) hQ).mono (fun r w2 hr => ?_))
            obtain ⟨r19, rfl, rfl, hQ⟩ := hr
            refine x_bipush (v := (39 : Int32)) d_X10_worksOut_114 (by decide) ?_
            refine x_icmp_ne (tgt := 123) d_X10_worksOut_116 (by decide) (fun c_116_20 => ?_) (fun c_116_20 => ?_)
            · have hQ := hQ.1 c_116_20
              refine x_iconst (v := (0 : Int32)) d_X10_worksOut_123 (by decide) ?_
              refine x_sub [3, 4, 5, 7, 2, 0] (lv2 := [(0, .ref a), (1, .int a0), (2, .int a1), (4, .int x_4), (5, .int r5), (7, .int (1 : Int32))]) rfl ?_
              exact jt_X10_worksOut_124 hd ih x_4 r5 (1 : Int32) (0 : Int32) y_0 hQ
            · have hQ := hQ.2 c_116_20
              refine x_iconst (v := (1 : Int32)) d_X10_worksOut_119 (by decide) ?_
              refine x_goto (tgt := 124) d_X10_worksOut_120 (by decide) ?_
              refine x_sub [3, 4, 5, 7, 2, 0] (lv2 := [(0, .ref a), (1, .int a0), (2, .int a1), (4, .int x_4), (5, .int r5), (7, .int (1 : Int32))]) rfl ?_
              exact jt_X10_worksOut_124 hd ih x_4 r5 (1 : Int32) (1 : Int32) y_0 hQ
        · have hQ := hQ.2 c_85_9
          refine x_aload_n 3 d_X10_worksOut_88 rfl rfl ?_
          refine x_iload_n 5 d_X10_worksOut_89 rfl rfl ?_
          refine x_i2l d_X10_worksOut_90 rfl ?_
          refine x_invV (rest := []) (d' := d - 1) (mc' := 0) (ms' := 0) [.long (a1.toInt64)] k_X10_puts lk_X10_242 gM_0 rfl rfl rfl (Nat.le_of_ble_eq_true rfl) (by omega) (Nat.le_refl _) (Nat.le_refl _) d_X10_worksOut_91 ((sp_X10_puts (d := d - 1) (by omega) hQ).mono (fun r w2 hr => ?_))
          obtain ⟨s32, rfl, rfl, hQ⟩ := hr
          refine x_goto (tgt := 311) d_X10_worksOut_94 (by decide) ?_
          refine x_sub [3, 4, 5, 1, 0] (lv2 := [(0, .ref a), (1, .int a0), (2, .int a1), (6, .int x6), (7, .int (1 : Int32))]) rfl ?_
          exact jt_X10_worksOut_311 hd ih x6 (1 : Int32) s32 hQ
      · have hQ := hQ.2 c_55_8
        refine x_aload_n 3 d_X10_worksOut_58 rfl rfl ?_
        refine x_aload_n 3 d_X10_worksOut_59 rfl rfl ?_
        refine x_iload_n 4 d_X10_worksOut_60 rfl rfl ?_
        refine x_iload 7 d_X10_worksOut_61 rfl ?_
        refine x_invV (rest := [.ref a]) (d' := d - 1) (mc' := 0) (ms' := 0) [.int a0, .int x_4] k_X10_numberAt lk_X10_239 gM_0 rfl rfl rfl (Nat.le_of_ble_eq_true rfl) (by omega) (Nat.le_refl _) (Nat.le_refl _) d_X10_worksOut_63 ((sp_X10_numberAt (d := d - 1) (by omega) hQ).mono (fun r w2 hr => ?_))
        obtain ⟨r33, rfl, rfl, hQ⟩ := hr
        refine x_invV (rest := []) (d' := d - 1) (mc' := 0) (ms' := 0) [.long r33] k_X10_puts lk_X10_242 gM_0 rfl rfl rfl (Nat.le_of_ble_eq_true rfl) (by omega) (Nat.le_refl _) (Nat.le_refl _) d_X10_worksOut_66 ((sp_X10_puts (d := d - 1) (by omega) hQ).mono (fun r w2 hr => ?_))
        obtain ⟨s34, rfl, rfl, hQ⟩ := hr
        refine x_aload_n 3 d_X10_worksOut_69 rfl rfl ?_
        refine x_iload_n 4 d_X10_worksOut_70 rfl rfl ?_
        refine x_iload 7 d_X10_worksOut_71 rfl ?_
        refine x_invV (rest := []) (d' := d - 1) (mc' := 0) (ms' := 0) [.int a0, .int x_4] k_X10_behindNumber lk_X10_246 gM_0 rfl rfl rfl (Nat.le_of_ble_eq_true rfl) (by omega) (Nat.le_refl _) (Nat.le_refl _) d_X10_worksOut_73 ((sp_X10_behindNumber (d := d - 1) (by omega) hQ).mono (fun r w2 hr => ?_))
        obtain ⟨r35, rfl, rfl, hQ⟩ := hr
        refine x_istore (lv2 := [(6, .int r35), (7, .int (1 : Int32)), (5, .int r5), (0, .ref a), (1, .int a0), (2, .int a1), (3, .int x_3), (4, .int x_4)]) d_X10_worksOut_76 (by decide) rfl ?_
        refine x_goto (tgt := 311) d_X10_worksOut_78 (by decide) ?_
        refine x_sub [3, 4, 5, 0, 1] (lv2 := [(0, .ref a), (1, .int a0), (2, .int a1), (6, .int r35), (7, .int (1 : Int32))]) rfl ?_
        exact jt_X10_worksOut_311 hd ih r35 (1 : Int32) s34 hQ
def wp_X10_worksOut (s : RT) (a0 : Int32) (a1 : Int32) (K : Int64 → RT → Prop) : Prop := ∀ s1 : RT, s1 = rS s 29 (0 : Int32) → ∀ s2 : RT, s2 = rS s1 30 (0 : Int32) → ∃ m : Nat, lp_X10_worksOut_15 a0 a1 K m (1 : Int32) (0 : Int32) s2
set_option maxHeartbeats 4000000 in
theorem sp_X10_worksOut {G : GX} {l : Launch} {d : Nat} {w : HW} {a : Nat} {s : RT} {a0 : Int32} {a1 : Int32} {K : Int64 → RT → Prop} (hd : 4 ≤ d) (hQ : wp_X10_worksOut s a0 a1 K) : Sp G l m_X10_worksOut d 0 0 [.ref a, .int a0, .int a1] (put w a 22 (shM a s)) (fun r w2 => ∃ (r1 : Int64), ∃ (z0 : RT), r = some (.long r1) ∧ w2 = put w a 22 (shM a z0) ∧ K r1 z0) := by
  refine Sp.ofX k_X10_worksOut.1.1 (Nat.le_of_ble_eq_true rfl) ?_
  refine X.lv (lv2 := [(0, .ref a), (1, .int a0), (2, .int a1)]) rfl ?_
  refine x_aload_n 0 d_X10_worksOut_0 rfl rfl ?_
  refine x_iconst (v := (0 : Int32)) d_X10_worksOut_1 (by decide) ?_
  refine x_putf 29 (.int) pf_X10_219 gM_0 rfl rfl (Nat.le_of_ble_eq_true rfl) d_X10_worksOut_2 ?_
  obtain ⟨s1, e_s1⟩ : ∃ z : RT, z = rS s 29 (0 : Int32) := ⟨_, rfl⟩
  have hQ := hQ s1 e_s1
  refine X.world (w2 := put w a 22 (shM a s1)) (by rw [e_s1]; exact sM_0_29) ?_
  refine x_aload_n 0 d_X10_worksOut_5 rfl rfl ?_
  refine x_iconst (v := (0 : Int32)) d_X10_worksOut_6 (by decide) ?_
  refine x_putf 30 (.int) pf_X10_216 gM_0 rfl rfl (Nat.le_of_ble_eq_true rfl) d_X10_worksOut_7 ?_
  obtain ⟨s2, e_s2⟩ : ∃ z : RT, z = rS s1 30 (0 : Int32) := ⟨_, rfl⟩
  have hQ := hQ s2 e_s2
  refine X.world (w2 := put w a 22 (shM a s2)) (by rw [e_s2]; exact sM_0_30) ?_
  refine x_iconst (v := (1 : Int32)) d_X10_worksOut_10 (by decide) ?_
  refine x_istore_n (lv2 := [(3, .int (1 : Int32)), (0, .ref a), (1, .int a0), (2, .int a1)]) d_X10_worksOut_11 rfl (by decide) rfl ?_
  refine x_iconst (v := (0 : Int32)) d_X10_worksOut_12 (by decide) ?_
  refine x_istore (lv2 := [(4, .int (0 : Int32)), (3, .int (1 : Int32)), (0, .ref a), (1, .int a0), (2, .int a1)]) d_X10_worksOut_13 (by decide) rfl ?_
  refine x_sub [2, 3, 4, 1, 0] (lv2 := [(0, .ref a), (1, .int a0), (2, .int a1), (3, .int (1 : Int32)), (4, .int (0 : Int32))]) rfl ?_
  obtain ⟨m, hQ⟩ := hQ
  exact jt_X10_worksOut_15 hd m (1 : Int32) (0 : Int32) s2 hQ
def jp_X10_needsRounds_65 (s : RT) (a0 : Int32) (a1 : Int32) (K : Int32 → Prop) (k_5 : Int32 → Int32 → Prop) (x_4 : Int32) : Prop := ∀ x5 : Int32, x5 = x_4 + (1 : Int32) → k_5 (1 : Int32) x5
set_option maxHeartbeats 4000000 in
theorem jt_X10_needsRounds_65 {G : GX} {l : Launch} {d : Nat} {w : HW} {a : Nat} {s : RT} {a0 : Int32} {a1 : Int32} {K : Int32 → Prop} {k_5 : Int32 → Int32 → Prop} (hd : 3 ≤ d) (hk_5 : ∀ (x_3 : Int32) (x_4 : Int32), k_5 x_3 x_4 → X G l m_X10_needsRounds d 0 0 0 0 5 [(0, .ref a), (1, .int a0), (2, .int a1), (3, .int x_3), (4, .int x_4)] [] (put w a 22 (shM a s)) (fun r w2 => ∃ (r1 : Int32), r = some (.int r1) ∧ w2 = put w a 22 (shM a s) ∧ K r1)) (x_4 : Int32) (hQ : jp_X10_needsRounds_65 s a0 a1 K k_5 x_4) : X G l m_X10_needsRounds d 0 0 0 0 65 [(0, .ref a), (1, .int a0), (2, .int a1), (4, .int x_4)] [] (put w a 22 (shM a s)) (fun r w2 => ∃ (r1 : Int32), r = some (.int r1) ∧ w2 = put w a 22 (shM a s) ∧ K r1) := by
  refine x_iconst (v := (1 : Int32)) d_X10_needsRounds_65 (by decide) ?_
  refine x_goto (tgt := 70) d_X10_needsRounds_66 (by decide) ?_
  refine x_istore_n (lv2 := [(3, .int (1 : Int32)), (0, .ref a), (1, .int a0), (2, .int a1), (4, .int x_4)]) d_X10_needsRounds_70 rfl (by decide) rfl ?_
  obtain ⟨x5, e_x5⟩ : ∃ z : Int32, z = x_4 + (1 : Int32) := ⟨_, rfl⟩
  have hQ := hQ x5 e_x5
  refine x_iinc (v := x5) (lv2 := [(4, .int x5), (3, .int (1 : Int32)), (0, .ref a), (1, .int a0), (2, .int a1)]) 4 d_X10_needsRounds_71 rfl (by rw [e_x5]; rfl) (by decide) rfl ?_
  refine x_goto (tgt := 5) d_X10_needsRounds_74 (by decide) ?_
  refine x_sub [2, 3, 4, 1, 0] (lv2 := [(0, .ref a), (1, .int a0), (2, .int a1), (3, .int (1 : Int32)), (4, .int x5)]) rfl ?_
  exact hk_5 (1 : Int32) x5 hQ
def jp_X10_needsRounds_69 (s : RT) (a0 : Int32) (a1 : Int32) (K : Int32 → Prop) (k_5 : Int32 → Int32 → Prop) (x_4 : Int32) : Prop := ∀ x7 : Int32, x7 = x_4 + (1 : Int32) → k_5 (0 : Int32) x7
set_option maxHeartbeats 4000000 in
theorem jt_X10_needsRounds_69 {G : GX} {l : Launch} {d : Nat} {w : HW} {a : Nat} {s : RT} {a0 : Int32} {a1 : Int32} {K : Int32 → Prop} {k_5 : Int32 → Int32 → Prop} (hd : 3 ≤ d) (hk_5 : ∀ (x_3 : Int32) (x_4 : Int32), k_5 x_3 x_4 → X G l m_X10_needsRounds d 0 0 0 0 5 [(0, .ref a), (1, .int a0), (2, .int a1), (3, .int x_3), (4, .int x_4)] [] (put w a 22 (shM a s)) (fun r w2 => ∃ (r1 : Int32), r = some (.int r1) ∧ w2 = put w a 22 (shM a s) ∧ K r1)) (x_4 : Int32) (hQ : jp_X10_needsRounds_69 s a0 a1 K k_5 x_4) : X G l m_X10_needsRounds d 0 0 0 0 69 [(0, .ref a), (1, .int a0), (2, .int a1), (4, .int x_4)] [] (put w a 22 (shM a s)) (fun r w2 => ∃ (r1 : Int32), r = some (.int r1) ∧ w2 = put w a 22 (shM a s) ∧ K r1) := by
  refine x_iconst (v := (0 : Int32)) d_X10_needsRounds_69 (by decide) ?_
  refine x_istore_n (lv2 := [(3, .int (0 : Int32)), (0, .ref a), (1, .int a0), (2, .int a1), (4, .int x_4)]) d_X10_needsRounds_70 rfl (by decide) rfl ?_
  obtain ⟨x7, e_x7⟩ : ∃ z : Int32, z = x_4 + (1 : Int32) := ⟨_, rfl⟩
  have hQ := hQ x7 e_x7
  refine x_iinc (v := x7) (lv2 := [(4, .int x7), (3, .int (0 : Int32)), (0, .ref a), (1, .int a0), (2, .int a1)]) 4 d_X10_needsRounds_71 rfl (by rw [e_x7]; rfl) (by decide) rfl ?_
  refine x_goto (tgt := 5) d_X10_needsRounds_74 (by decide) ?_
  refine x_sub [2, 3, 4, 1, 0] (lv2 := [(0, .ref a), (1, .int a0), (2, .int a1), (3, .int (0 : Int32)), (4, .int x7)]) rfl ?_
  exact hk_5 (0 : Int32) x7 hQ
def jp_X10_needsRounds_29 (s : RT) (a0 : Int32) (a1 : Int32) (K : Int32 → Prop) (k_5 : Int32 → Int32 → Prop) (x_3 : Int32) (x_4 : Int32) (t_0 : Int32) : Prop := ((¬ x_3 = (0 : Int32) → jp_X10_needsRounds_65 s a0 a1 K k_5 x_4) ∧ (x_3 = (0 : Int32) → ((t_0 = (0 : Int32) → jp_X10_needsRounds_69 s a0 a1 K k_5 x_4) ∧ (¬ t_0 = (0 : Int32) → wp_X10_lagAt s x_4 (a0 + a1) (fun (r8 : Int32) => ((a1 ≤ r8 → jp_X10_needsRounds_69 s a0 a1 K k_5 x_4) ∧ (¬ a1 ≤ r8 → wp_X10_lagAt s x_4 (a0 + a1) (fun (r10 : Int32) => ((r10 = (0 : Int32) → jp_X10_needsRounds_69 s a0 a1 K k_5 x_4) ∧ (¬ r10 = (0 : Int32) → jp_X10_needsRounds_65 s a0 a1 K k_5 x_4))))))))))
set_option maxHeartbeats 4000000 in
theorem jt_X10_needsRounds_29 {G : GX} {l : Launch} {d : Nat} {w : HW} {a : Nat} {s : RT} {a0 : Int32} {a1 : Int32} {K : Int32 → Prop} {k_5 : Int32 → Int32 → Prop} (hd : 3 ≤ d) (hk_5 : ∀ (x_3 : Int32) (x_4 : Int32), k_5 x_3 x_4 → X G l m_X10_needsRounds d 0 0 0 0 5 [(0, .ref a), (1, .int a0), (2, .int a1), (3, .int x_3), (4, .int x_4)] [] (put w a 22 (shM a s)) (fun r w2 => ∃ (r1 : Int32), r = some (.int r1) ∧ w2 = put w a 22 (shM a s) ∧ K r1)) (x_3 : Int32) (x_4 : Int32) (t_0 : Int32) (hQ : jp_X10_needsRounds_29 s a0 a1 K k_5 x_3 x_4 t_0) : X G l m_X10_needsRounds d 0 0 0 0 29 [(0, .ref a), (1, .int a0), (2, .int a1), (3, .int x_3), (4, .int x_4)] [.int t_0] (put w a 22 (shM a s)) (fun r w2 => ∃ (r1 : Int32), r = some (.int r1) ∧ w2 = put w a 22 (shM a s) ∧ K r1) := by
  refine x_istore (lv2 := [(5, .int t_0), (0, .ref a), (1, .int a0), (2, .int a1), (3, .int x_3), (4, .int x_4)]) d_X10_needsRounds_29 (by decide) rfl ?_
  refine x_iload_n 4 d_X10_needsRounds_31 rfl rfl ?_
  refine x_if_ne (tgt := 65) d_X10_needsRounds_32 (by decide) (fun c_32_4 => ?_) (fun c_32_4 => ?_)
  · have hQ := hQ.1 c_32_4
    refine x_sub [1, 2, 3, 5] (lv2 := [(0, .ref a), (1, .int a0), (2, .int a1), (4, .int x_4)]) rfl ?_
    exact jt_X10_needsRounds_65 hd hk_5 x_4 hQ
  · have hQ := hQ.2 c_32_4
    refine x_iload 0 d_X10_needsRounds_35 rfl ?_
    refine x_if_eq (tgt := 69) d_X10_needsRounds_37 (by decide) (fun c_37_6 => ?_) (fun c_37_6 => ?_)
    · have hQ := hQ.1 c_37_6
      refine x_sub [1, 2, 3, 5] (lv2 := [(0, .ref a), (1, .int a0), (2, .int a1), (4, .int x_4)]) rfl ?_
      exact jt_X10_needsRounds_69 hd hk_5 x_4 hQ
    · have hQ := hQ.2 c_37_6
      refine x_aload_n 1 d_X10_needsRounds_40 rfl rfl ?_
      refine x_iload 5 d_X10_needsRounds_41 rfl ?_
      refine x_iload_n 2 d_X10_needsRounds_43 rfl rfl ?_
      refine x_iload_n 3 d_X10_needsRounds_44 rfl rfl ?_
      refine x_iadd d_X10_needsRounds_45 ?_
      refine x_invV (rest := []) (d' := d - 1) (mc' := 0) (ms' := 0) [.int x_4, .int (a0 + a1)] k_X10_lagAt lk_X10_153 gM_0 rfl rfl rfl (Nat.le_of_ble_eq_true rfl) (by omega) (Nat.le_refl _) (Nat.le_refl _) d_X10_needsRounds_46 ((sp_X10_lagAt (d := d - 1) (by omega) hQ).mono (fun r w2 hr => ?_))
      obtain ⟨r8, rfl, rfl, hQ⟩ := hr
      refine x_iload_n 3 d_X10_needsRounds_49 rfl rfl ?_
      refine x_icmp_ge (tgt := 69) d_X10_needsRounds_50 (by decide) (fun c_50_9 => ?_) (fun c_50_9 => ?_)
      · have hQ := hQ.1 c_50_9
        refine x_sub [1, 2, 3, 5] (lv2 := [(0, .ref a), (1, .int a0), (2, .int a1), (4, .int x_4)]) rfl ?_
        exact jt_X10_needsRounds_69 hd hk_5 x_4 hQ
      · have hQ := hQ.2 c_50_9
        refine x_aload_n 1 d_X10_needsRounds_53 rfl rfl ?_
        refine x_iload 5 d_X10_needsRounds_54 rfl ?_
        refine x_iload_n 2 d_X10_needsRounds_56 rfl rfl ?_
        refine x_iload_n 3 d_X10_needsRounds_57 rfl rfl ?_
        refine x_iadd d_X10_needsRounds_58 ?_
        refine x_invV (rest := []) (d' := d - 1) (mc' := 0) (ms' := 0) [.int x_4, .int (a0 + a1)] k_X10_lagAt lk_X10_153 gM_0 rfl rfl rfl (Nat.le_of_ble_eq_true rfl) (by omega) (Nat.le_refl _) (Nat.le_refl _) d_X10_needsRounds_59 ((sp_X10_lagAt (d := d - 1) (by omega) hQ).mono (fun r w2 hr => ?_))
        obtain ⟨r10, rfl, rfl, hQ⟩ := hr
        refine x_if_eq (tgt := 69) d_X10_needsRounds_62 (by decide) (fun c_62_11 => ?_) (fun c_62_11 => ?_)
        · have hQ := hQ.1 c_62_11
          refine x_sub [1, 2, 3, 5] (lv2 := [(0, .ref a), (1, .int a0), (2, .int a1), (4, .int x_4)]) rfl ?_
          exact jt_X10_needsRounds_69 hd hk_5 x_4 hQ
        · have hQ := hQ.2 c_62_11
          refine x_sub [1, 2, 3, 5] (lv2 := [(0, .ref a), (1, .int a0), (2, .int a1), (4, .int x_4)]) rfl ?_
          exact jt_X10_needsRounds_65 hd hk_5 x_4 hQ
def lp_X10_needsRounds_5 (s : RT) (a0 : Int32) (a1 : Int32) (K : Int32 → Prop) : Nat → Int32 → Int32 → Prop
  | 0, _, _ => False
  | n + 1, x_3, x_4 => (((3 : Int32) ≤ x_4 → (narrow .boolean (.int x_3) = .int x_3) ∧ K x_3) ∧ (¬ (3 : Int32) ≤ x_4 → wp_X10_used s (fun (r2 : Int32) => ((¬ ((r2 >>> (x_4 &&& 31)) &&& (1 : Int32)) = (1 : Int32) → jp_X10_needsRounds_29 s a0 a1 K (fun v0 v1 => lp_X10_needsRounds_5 s a0 a1 K n v0 v1) x_3 x_4 (0 : Int32)) ∧ (((r2 >>> (x_4 &&& 31)) &&& (1 : Int32)) = (1 : Int32) → jp_X10_needsRounds_29 s a0 a1 K (fun v0 v1 => lp_X10_needsRounds_5 s a0 a1 K n v0 v1) x_3 x_4 (1 : Int32))))))
set_option maxHeartbeats 4000000 in
theorem jt_X10_needsRounds_5 {G : GX} {l : Launch} {d : Nat} {w : HW} {a : Nat} {s : RT} {a0 : Int32} {a1 : Int32} {K : Int32 → Prop} (hd : 3 ≤ d) : ∀ (n : Nat) (x_3 : Int32) (x_4 : Int32), lp_X10_needsRounds_5 s a0 a1 K n x_3 x_4 → X G l m_X10_needsRounds d 0 0 0 0 5 [(0, .ref a), (1, .int a0), (2, .int a1), (3, .int x_3), (4, .int x_4)] [] (put w a 22 (shM a s)) (fun r w2 => ∃ (r1 : Int32), r = some (.int r1) ∧ w2 = put w a 22 (shM a s) ∧ K r1) := by
  intro n
  induction n with
  | zero =>
    intro x_3 x_4 hQ
    exact hQ.elim
  | succ n ih =>
    intro x_3 x_4 hQ
    refine x_iload 4 d_X10_needsRounds_5 rfl ?_
    refine x_iconst (v := (3 : Int32)) d_X10_needsRounds_7 (by decide) ?_
    refine x_icmp_ge (tgt := 77) d_X10_needsRounds_8 (by decide) (fun c_8_1 => ?_) (fun c_8_1 => ?_)
    · have hQ := hQ.1 c_8_1
      refine x_iload_n 3 d_X10_needsRounds_77 rfl rfl ?_
      exact x_iret (retB d_X10_needsRounds_78 rfl hQ.1) ⟨_, rfl, rfl, hQ.2⟩
    · have hQ := hQ.2 c_8_1
      refine x_aload_n 0 d_X10_needsRounds_11 rfl rfl ?_
      refine x_invV (rest := []) (d' := d - 1) (mc' := 0) (ms' := 0) [] k_X10_used lk_X10_162 gM_0 rfl rfl rfl (Nat.le_of_ble_eq_true rfl) (by omega) (Nat.le_refl _) (Nat.le_refl _) d_X10_needsRounds_12 ((sp_X10_used (d := d - 1) (by omega) hQ).mono (fun r w2 hr => ?_))
      obtain ⟨r2, rfl, rfl, hQ⟩ := hr
      refine x_iload 4 d_X10_needsRounds_15 rfl ?_
      refine x_ishr d_X10_needsRounds_17 ?_
      refine x_iconst (v := (1 : Int32)) d_X10_needsRounds_18 (by decide) ?_
      refine x_iand d_X10_needsRounds_19 ?_
      refine x_iconst (v := (1 : Int32)) d_X10_needsRounds_20 (by decide) ?_
      refine x_icmp_ne (tgt := 28) d_X10_needsRounds_21 (by decide) (fun c_21_3 => ?_) (fun c_21_3 => ?_)
      · have hQ := hQ.1 c_21_3
        refine x_iconst (v := (0 : Int32)) d_X10_needsRounds_28 (by decide) ?_
        refine x_sub [0, 1, 2, 3, 4] (lv2 := [(0, .ref a), (1, .int a0), (2, .int a1), (3, .int x_3), (4, .int x_4)]) rfl ?_
        exact jt_X10_needsRounds_29 hd ih x_3 x_4 (0 : Int32) hQ
      · have hQ := hQ.2 c_21_3
        refine x_iconst (v := (1 : Int32)) d_X10_needsRounds_24 (by decide) ?_
        refine x_goto (tgt := 29) d_X10_needsRounds_25 (by decide) ?_
        refine x_sub [0, 1, 2, 3, 4] (lv2 := [(0, .ref a), (1, .int a0), (2, .int a1), (3, .int x_3), (4, .int x_4)]) rfl ?_
        exact jt_X10_needsRounds_29 hd ih x_3 x_4 (1 : Int32) hQ
def wp_X10_needsRounds (s : RT) (a0 : Int32) (a1 : Int32) (K : Int32 → Prop) : Prop := ∃ m : Nat, lp_X10_needsRounds_5 s a0 a1 K m (0 : Int32) (0 : Int32)
set_option maxHeartbeats 4000000 in
theorem sp_X10_needsRounds {G : GX} {l : Launch} {d : Nat} {w : HW} {a : Nat} {s : RT} {a0 : Int32} {a1 : Int32} {K : Int32 → Prop} (hd : 3 ≤ d) (hQ : wp_X10_needsRounds s a0 a1 K) : Sp G l m_X10_needsRounds d 0 0 [.ref a, .int a0, .int a1] (put w a 22 (shM a s)) (fun r w2 => ∃ (r1 : Int32), r = some (.int r1) ∧ w2 = put w a 22 (shM a s) ∧ K r1) := by
  refine Sp.ofX k_X10_needsRounds.1.1 (Nat.le_of_ble_eq_true rfl) ?_
  refine X.lv (lv2 := [(0, .ref a), (1, .int a0), (2, .int a1)]) rfl ?_
  refine x_iconst (v := (0 : Int32)) d_X10_needsRounds_0 (by decide) ?_
  refine x_istore_n (lv2 := [(3, .int (0 : Int32)), (0, .ref a), (1, .int a0), (2, .int a1)]) d_X10_needsRounds_1 rfl (by decide) rfl ?_
  refine x_iconst (v := (0 : Int32)) d_X10_needsRounds_2 (by decide) ?_
  refine x_istore (lv2 := [(4, .int (0 : Int32)), (3, .int (0 : Int32)), (0, .ref a), (1, .int a0), (2, .int a1)]) d_X10_needsRounds_3 (by decide) rfl ?_
  refine x_sub [2, 3, 4, 1, 0] (lv2 := [(0, .ref a), (1, .int a0), (2, .int a1), (3, .int (0 : Int32)), (4, .int (0 : Int32))]) rfl ?_
  obtain ⟨m, hQ⟩ := hQ
  exact jt_X10_needsRounds_5 hd m (0 : Int32) (0 : Int32) hQ
def lp_X10_guesses_39 (a0 : Int32) (a1 : Int32) (K : RT → Prop) : Nat → Int32 → RT → Prop
  | 0, _, _ => False
  | n + 1, x_3, y_0 => (((3 : Int32) ≤ x_3 → K y_0) ∧ (¬ (3 : Int32) ≤ x_3 → vp_in x_3 3 ∧ vp_in x_3 3 ∧ vp_in x_3 3 ∧ wp_X10_held ((y_0.2.1 15 x_3.toNatClampNeg) + ((((y_0.2.1 17 x_3.toNatClampNeg) + (y_0.2.1 18 x_3.toNatClampNeg)) * (a1.toInt64)) / (2000 : Int64))) (fun (r5 : Int64) => vp_in x_3 3 ∧ ∀ s6 : RT, s6 = rL y_0 16 (vp_updL (y_0.2.1 16) x_3.toNatClampNeg r5) → ∀ x7 : Int32, x7 = x_3 + (1 : Int32) → lp_X10_guesses_39 a0 a1 K n x7 s6)))
set_option maxHeartbeats 4000000 in
theorem jt_X10_guesses_39 {G : GX} {l : Launch} {d : Nat} {w : HW} {a : Nat} {a0 : Int32} {a1 : Int32} {K : RT → Prop} (hd : 5 ≤ d) : ∀ (n : Nat) (x_3 : Int32) (y_0 : RT), lp_X10_guesses_39 a0 a1 K n x_3 y_0 → X G l m_X10_guesses d 0 0 0 0 39 [(0, .ref a), (2, .int a1), (3, .int x_3)] [] (put w a 22 (shM a y_0)) (fun r w2 => ∃ (z0 : RT), r = none ∧ w2 = put w a 22 (shM a z0) ∧ K z0) := by
  intro n
  induction n with
  | zero =>
    intro x_3 y_0 hQ
    exact hQ.elim
  | succ n ih =>
    intro x_3 y_0 hQ
    refine x_iload_n 2 d_X10_guesses_39 rfl rfl ?_
    refine x_iconst (v := (3 : Int32)) d_X10_guesses_40 (by decide) ?_
    refine x_icmp_ge (tgt := 86) d_X10_guesses_41 (by decide) (fun c_41_4 => ?_) (fun c_41_4 => ?_)
    · have hQ := hQ.1 c_41_4
      exact x_vret (retV d_X10_guesses_86 rfl) ⟨_, rfl, rfl, hQ⟩
    · have hQ := hQ.2 c_41_4
      refine x_aload_n 0 d_X10_guesses_44 rfl rfl ?_
      refine x_getf 23 gf_X10_56 gM_0 rfl d_X10_guesses_45 ?_
      refine x_iload_n 2 d_X10_guesses_48 rfl rfl ?_
      refine x_aload_n 0 d_X10_guesses_49 rfl rfl ?_
      refine x_getf 22 gf_X10_53 gM_0 rfl d_X10_guesses_50 ?_
      refine x_iload_n 2 d_X10_guesses_53 rfl rfl ?_
      have hN := hQ.1
      have hQ := hQ.2
      refine x_lald gM_15 hN d_X10_guesses_54 ?_
      refine x_aload_n 0 d_X10_guesses_55 rfl rfl ?_
      refine x_getf 24 gf_X10_59 gM_0 rfl d_X10_guesses_56 ?_
      refine x_iload_n 2 d_X10_guesses_59 rfl rfl ?_
      have hN := hQ.1
      have hQ := hQ.2
      refine x_lald gM_17 hN d_X10_guesses_60 ?_
      refine x_aload_n 0 d_X10_guesses_61 rfl rfl ?_
      refine x_getf 25 gf_X10_62 gM_0 rfl d_X10_guesses_62 ?_
      refine x_iload_n 2 d_X10_guesses_65 rfl rfl ?_
      have hN := hQ.1
      have hQ := hQ.2
      refine x_lald gM_18 hN d_X10_guesses_66 ?_
      refine x_ladd d_X10_guesses_67 ?_
      refine x_iload_n 1 d_X10_guesses_68 rfl rfl ?_
      refine x_i2l d_X10_guesses_69 rfl ?_
      refine x_lmul d_X10_guesses_70 ?_
      refine x_ldc2 (v := (2000 : Int64)) kc_X10_198 d_X10_guesses_71 ?_
      refine x_ldiv d_X10_guesses_74 (by decide) ?_
      refine x_ladd d_X10_guesses_75 ?_
      refine x_invS (rest := [.int x_3, .ref (a + 16)]) (d' := d - 1) (mc' := 0) (ms' := 0) [.long ((y_0.2.1 15 x_3.toNatClampNeg) + ((((y_0.2.1 17 x_3.toNatClampNeg) + (y_0.2.1 18 x_3.toNatClampNeg)) * (a1.toInt64)) / (2000 : Int64)))] k_X10_held lk_X10_191 rfl rfl (Nat.le_of_ble_eq_true rfl) (by omega) (Nat.le_refl _) (Nat.le_refl _) d_X10_guesses_76 ((sp_X10_held (d := d - 1) (by omega) hQ).mono (fun r w2 hr => ?_))
      obtain ⟨r5, rfl, rfl, hQ⟩ := hr
      have hN := hQ.1
      have hQ := hQ.2
      refine x_last gM_16 hN d_X10_guesses_79 ?_
      obtain ⟨s6, e_s6⟩ : ∃ z : RT, z = rL y_0 16 (vp_updL (y_0.2.1 16) x_3.toNatClampNeg r5) := ⟨_, rfl⟩
      have hQ := hQ s6 e_s6
      refine X.world (w2 := put w a 22 (shM a s6)) (by rw [e_s6]; exact sM_16) ?_
      obtain ⟨x7, e_x7⟩ : ∃ z : Int32, z = x_3 + (1 : Int32) := ⟨_, rfl⟩
      have hQ := hQ x7 e_x7
      refine x_iinc (v := x7) (lv2 := [(3, .int x7), (0, .ref a), (2, .int a1)]) 2 d_X10_guesses_80 rfl (by rw [e_x7]; rfl) (by decide) rfl ?_
      refine x_goto (tgt := 39) d_X10_guesses_83 (by decide) ?_
      refine x_sub [1, 2, 0] (lv2 := [(0, .ref a), (2, .int a1), (3, .int x7)]) rfl ?_
      exact ih x7 s6 hQ
def lp_X10_guesses_7 (a0 : Int32) (a1 : Int32) (K : RT → Prop) : Nat → Int32 → RT → Prop
  | 0, _, _ => False
  | n + 1, x_3, y_0 => (((3 : Int32) ≤ x_3 → ∀ s3 : RT, s3 = rS y_0 19 (0 : Int32) → ∃ m : Nat, lp_X10_guesses_39 a0 a1 K m (0 : Int32) s3) ∧ (¬ (3 : Int32) ≤ x_3 → wp_X10_worksOut y_0 x_3 (a0 + a1) (fun (r8 : Int64) (s9 : RT) => vp_in x_3 3 ∧ ∀ s10 : RT, s10 = rL s9 18 (vp_updL (s9.2.1 18) x_3.toNatClampNeg r8) → ∀ x11 : Int32, x11 = x_3 + (1 : Int32) → lp_X10_guesses_7 a0 a1 K n x11 s10)))
set_option maxHeartbeats 4000000 in
theorem jt_X10_guesses_7 {G : GX} {l : Launch} {d : Nat} {w : HW} {a : Nat} {a0 : Int32} {a1 : Int32} {K : RT → Prop} (hd : 5 ≤ d) : ∀ (n : Nat) (x_3 : Int32) (y_0 : RT), lp_X10_guesses_7 a0 a1 K n x_3 y_0 → X G l m_X10_guesses d 0 0 0 0 7 [(0, .ref a), (1, .int a0), (2, .int a1), (3, .int x_3)] [] (put w a 22 (shM a y_0)) (fun r w2 => ∃ (z0 : RT), r = none ∧ w2 = put w a 22 (shM a z0) ∧ K z0) := by
  intro n
  induction n with
  | zero =>
    intro x_3 y_0 hQ
    exact hQ.elim
  | succ n ih =>
    intro x_3 y_0 hQ
    refine x_iload_n 3 d_X10_guesses_7 rfl rfl ?_
    refine x_iconst (v := (3 : Int32)) d_X10_guesses_8 (by decide) ?_
    refine x_icmp_ge (tgt := 32) d_X10_guesses_9 (by decide) (fun c_9_2 => ?_) (fun c_9_2 => ?_)
    · have hQ := hQ.1 c_9_2
      refine x_aload_n 0 d_X10_guesses_32 rfl rfl ?_
      refine x_iconst (v := (0 : Int32)) d_X10_guesses_33 (by decide) ?_
      refine x_putf 19 (.boolean) pf_X10_200 gM_0 rfl rfl (Nat.le_of_ble_eq_true rfl) d_X10_guesses_34 ?_
      obtain ⟨s3, e_s3⟩ : ∃ z : RT, z = rS y_0 19 (0 : Int32) := ⟨_, rfl⟩
      have hQ := hQ s3 e_s3
      refine X.world (w2 := put w a 22 (shM a s3)) (by rw [e_s3]; exact sM_0_19) ?_
      refine x_iconst (v := (0 : Int32)) d_X10_guesses_37 (by decide) ?_
      refine x_istore_n (lv2 := [(3, .int (0 : Int32)), (0, .ref a), (1, .int a0), (2, .int a1)]) d_X10_guesses_38 rfl (by decide) rfl ?_
      refine x_sub [1, 3, 0] (lv2 := [(0, .ref a), (2, .int a1), (3, .int (0 : Int32))]) rfl ?_
      obtain ⟨m, hQ⟩ := hQ
      exact jt_X10_guesses_39 hd m (0 : Int32) s3 hQ
    · have hQ := hQ.2 c_9_2
      refine x_aload_n 0 d_X10_guesses_12 rfl rfl ?_
      refine x_getf 25 gf_X10_62 gM_0 rfl d_X10_guesses_13 ?_
      refine x_iload_n 3 d_X10_guesses_16 rfl rfl ?_
      refine x_aload_n 0 d_X10_guesses_17 rfl rfl ?_
      refine x_iload_n 3 d_X10_guesses_18 rfl rfl ?_
      refine x_iload_n 1 d_X10_guesses_19 rfl rfl ?_
      refine x_iload_n 2 d_X10_guesses_20 rfl rfl ?_
      refine x_iadd d_X10_guesses_21 ?_
      refine x_invV (rest := [.int x_3, .ref (a + 18)]) (d' := d - 1) (mc' := 0) (ms' := 0) [.int x_3, .int (a0 + a1)] k_X10_worksOut lk_X10_277 gM_0 rfl rfl rfl (Nat.le_of_ble_eq_true rfl) (by omega) (Nat.le_refl _) (Nat.le_refl _) d_X10_guesses_22 ((sp_X10_worksOut (d := d - 1) (by omega) hQ).mono (fun r w2 hr => ?_))
      obtain ⟨r8, s9, rfl, rfl, hQ⟩ := hr
      have hN := hQ.1
      have hQ := hQ.2
      refine x_last gM_18 hN d_X10_guesses_25 ?_
      obtain ⟨s10, e_s10⟩ : ∃ z : RT, z = rL s9 18 (vp_updL (s9.2.1 18) x_3.toNatClampNeg r8) := ⟨_, rfl⟩
      have hQ := hQ s10 e_s10
      refine X.world (w2 := put w a 22 (shM a s10)) (by rw [e_s10]; exact sM_18) ?_
      obtain ⟨x11, e_x11⟩ : ∃ z : Int32, z = x_3 + (1 : Int32) := ⟨_, rfl⟩
      have hQ := hQ x11 e_x11
      refine x_iinc (v := x11) (lv2 := [(3, .int x11), (0, .ref a), (1, .int a0), (2, .int a1)]) 3 d_X10_guesses_26 rfl (by rw [e_x11]; rfl) (by decide) rfl ?_
      refine x_goto (tgt := 7) d_X10_guesses_29 (by decide) ?_
      refine x_sub [1, 2, 3, 0] (lv2 := [(0, .ref a), (1, .int a0), (2, .int a1), (3, .int x11)]) rfl ?_
      exact ih x11 s10 hQ
def wp_X10_guesses (s : RT) (a0 : Int32) (a1 : Int32) (K : RT → Prop) : Prop := ∀ s1 : RT, s1 = rS s 19 (1 : Int32) → ∃ m : Nat, lp_X10_guesses_7 a0 a1 K m (0 : Int32) s1
set_option maxHeartbeats 4000000 in
theorem sp_X10_guesses {G : GX} {l : Launch} {d : Nat} {w : HW} {a : Nat} {s : RT} {a0 : Int32} {a1 : Int32} {K : RT → Prop} (hd : 5 ≤ d) (hQ : wp_X10_guesses s a0 a1 K) : Sp G l m_X10_guesses d 0 0 [.ref a, .int a0, .int a1] (put w a 22 (shM a s)) (fun r w2 => ∃ (z0 : RT), r = none ∧ w2 = put w a 22 (shM a z0) ∧ K z0) := by
  refine Sp.ofX k_X10_guesses.1.1 (Nat.le_of_ble_eq_true rfl) ?_
  refine X.lv (lv2 := [(0, .ref a), (1, .int a0), (2, .int a1)]) rfl ?_
  refine x_aload_n 0 d_X10_guesses_0 rfl rfl ?_
  refine x_iconst (v := (1 : Int32)) d_X10_guesses_1 (by decide) ?_
  refine x_putf 19 (.boolean) pf_X10_200 gM_0 rfl rfl (Nat.le_of_ble_eq_true rfl) d_X10_guesses_2 ?_
  obtain ⟨s1, e_s1⟩ : ∃ z : RT, z = rS s 19 (1 : Int32) := ⟨_, rfl⟩
  have hQ := hQ s1 e_s1
  refine X.world (w2 := put w a 22 (shM a s1)) (by rw [e_s1]; exact sM_0_19) ?_
  refine x_iconst (v := (0 : Int32)) d_X10_guesses_5 (by decide) ?_
  refine x_istore_n (lv2 := [(3, .int (0 : Int32)), (0, .ref a), (1, .int a0), (2, .int a1)]) d_X10_guesses_6 rfl (by decide) rfl ?_
  refine x_sub [1, 2, 3, 0] (lv2 := [(0, .ref a), (1, .int a0), (2, .int a1), (3, .int (0 : Int32))]) rfl ?_
  obtain ⟨m, hQ⟩ := hQ
  exact jt_X10_guesses_7 hd m (0 : Int32) s1 hQ
def lp_X10_stepBy_174 (a0 : Int32) (K : RT → Prop) : Nat → Int32 → RT → Prop
  | 0, _, _ => False
  | n + 1, x_4, y_0 => (((3 : Int32) ≤ x_4 → ∀ s14 : RT, s14 = rS y_0 17 ((y_0.2.2 17) + (1 : Int32)) → K s14) ∧ (¬ (3 : Int32) ≤ x_4 → vp_in x_4 3 ∧ vp_in (((3 : Int32) * (y_0.2.2 17)) + x_4) 3300 ∧ ∀ s15 : RT, s15 = rL y_0 12 (vp_updL (y_0.2.1 12) (((3 : Int32) * (y_0.2.2 17)) + x_4).toNatClampNeg (y_0.2.1 15 x_4.toNatClampNeg)) → vp_in x_4 3 ∧ vp_in (((3 : Int32) * (s15.2.2 17)) + x_4) 3300 ∧ ∀ s16 : RT, s16 = rL s15 13 (vp_updL (s15.2.1 13) (((3 : Int32) * (s15.2.2 17)) + x_4).toNatClampNeg (s15.2.1 17 x_4.toNatClampNeg)) → vp_in x_4 3 ∧ vp_in (((3 : Int32) * (s16.2.2 17)) + x_4) 3300 ∧ ∀ s17 : RT, s17 = rL s16 14 (vp_updL (s16.2.1 14) (((3 : Int32) * (s16.2.2 17)) + x_4).toNatClampNeg (s16.2.1 16 x_4.toNatClampNeg)) → ∀ x18 : Int32, x18 = x_4 + (1 : Int32) → lp_X10_stepBy_174 a0 K n x18 s17))
set_option maxHeartbeats 4000000 in
theorem jt_X10_stepBy_174 {G : GX} {l : Launch} {d : Nat} {w : HW} {a : Nat} {a0 : Int32} {K : RT → Prop} (hd : 6 ≤ d) : ∀ (n : Nat) (x_4 : Int32) (y_0 : RT), lp_X10_stepBy_174 a0 K n x_4 y_0 → X G l m_X10_stepBy d 0 0 0 0 174 [(0, .ref a), (4, .int x_4)] [] (put w a 22 (shM a y_0)) (fun r w2 => ∃ (z0 : RT), r = none ∧ w2 = put w a 22 (shM a z0) ∧ K z0) := by
  intro n
  induction n with
  | zero =>
    intro x_4 y_0 hQ
    exact hQ.elim
  | succ n ih =>
    intro x_4 y_0 hQ
    refine x_iload 1 d_X10_stepBy_174 rfl ?_
    refine x_iconst (v := (3 : Int32)) d_X10_stepBy_176 (by decide) ?_
    refine x_icmp_ge (tgt := 249) d_X10_stepBy_177 (by decide) (fun c_177_13 => ?_) (fun c_177_13 => ?_)
    · have hQ := hQ.1 c_177_13
      refine x_aload_n 0 d_X10_stepBy_249 rfl rfl ?_
      refine x_dup d_X10_stepBy_250 rfl ?_
      refine x_getf 17 gf_X10_178 gM_0 rfl d_X10_stepBy_251 ?_
      refine x_iconst (v := (1 : Int32)) d_X10_stepBy_254 (by decide) ?_
      refine x_iadd d_X10_stepBy_255 ?_
      refine x_putf 17 (.int) pf_X10_178 gM_0 rfl rfl (Nat.le_of_ble_eq_true rfl) d_X10_stepBy_256 ?_
      obtain ⟨s14, e_s14⟩ : ∃ z : RT, z = rS y_0 17 ((y_0.2.2 17) + (1 : Int32)) := ⟨_, rfl⟩
      have hQ := hQ s14 e_s14
      refine X.world (w2 := put w a 22 (shM a s14)) (by rw [e_s14]; exact sM_0_17) ?_
      exact x_vret (retV d_X10_stepBy_259 rfl) ⟨_, rfl, rfl, hQ⟩
    · have hQ := hQ.2 c_177_13
      refine x_aload_n 0 d_X10_stepBy_180 rfl rfl ?_
      refine x_getf 14 gf_X10_43 gM_0 rfl d_X10_stepBy_181 ?_
      refine x_iconst (v := (3 : Int32)) d_X10_stepBy_184 (by decide) ?_
      refine x_aload_n 0 d_X10_stepBy_185 rfl rfl ?_
      refine x_getf 17 gf_X10_178 gM_0 rfl d_X10_stepBy_186 ?_
      refine x_imul d_X10_stepBy_189 ?_
      refine x_iload 1 d_X10_stepBy_190 rfl ?_
      refine x_iadd d_X10_stepBy_192 ?_
      refine x_aload_n 0 d_X10_stepBy_193 rfl rfl ?_
      refine x_getf 22 gf_X10_53 gM_0 rfl d_X10_stepBy_194 ?_
      refine x_iload 1 d_X10_stepBy_197 rfl ?_
      have hN := hQ.1
      have hQ := hQ.2
      refine x_lald gM_15 hN d_X10_stepBy_199 ?_
      have hN := hQ.1
      have hQ := hQ.2
      refine x_last gM_12 hN d_X10_stepBy_200 ?_
      obtain ⟨s15, e_s15⟩ : ∃ z : RT, z = rL y_0 12 (vp_updL (y_0.2.1 12) (((3 : Int32) * (y_0.2.2 17)) + x_4).toNatClampNeg (y_0.2.1 15 x_4.toNatClampNeg)) := ⟨_, rfl⟩
      have hQ := hQ s15 e_s15
      refine X.world (w2 := put w a 22 (shM a s15)) (by rw [e_s15]; exact sM_12) ?_
      refine x_aload_n 0 d_X10_stepBy_201 rfl rfl ?_
      refine x_getf 15 gf_X10_47 gM_0 rfl d_X10_stepBy_202 ?_
      refine x_iconst (v := (3 : Int32)) d_X10_stepBy_205 (by decide) ?_
      refine x_aload_n 0 d_X10_stepBy_206 rfl rfl ?_
      refine x_getf 17 gf_X10_178 gM_0 rfl d_X10_stepBy_207 ?_
      refine x_imul d_X10_stepBy_210 ?_
      refine x_iload 1 d_X10_stepBy_211 rfl ?_
      refine x_iadd d_X10_stepBy_213 ?_
      refine x_aload_n 0 d_X10_stepBy_214 rfl rfl ?_
      refine x_getf 24 gf_X10_59 gM_0 rfl d_X10_stepBy_215 ?_
      refine x_iload 1 d_X10_stepBy_218 rfl ?_
      have hN := hQ.1
      have hQ := hQ.2
      refine x_lald gM_17 hN d_X10_stepBy_220 ?_
      have hN := hQ.1
      have hQ := hQ.2
      refine x_last gM_13 hN d_X10_stepBy_221 ?_
      obtain ⟨s16, e_s16⟩ : ∃ z : RT, z = rL s15 13 (vp_updL (s15.2.1 13) (((3 : Int32) * (s15.2.2 17)) + x_4).toNatClampNeg (s15.2.1 17 x_4.toNatClampNeg)) := ⟨_, rfl⟩
      have hQ := hQ s16 e_s16
      refine X.world (w2 := put w a 22 (shM a s16)) (by rw [e_s16]; exact sM_13) ?_
      refine x_aload_n 0 d_X10_stepBy_222 rfl rfl ?_
      refine x_getf 16 gf_X10_50 gM_0 rfl d_X10_stepBy_223 ?_
      refine x_iconst (v := (3 : Int32)) d_X10_stepBy_226 (by decide) ?_
      refine x_aload_n 0 d_X10_stepBy_227 rfl rfl ?_
      refine x_getf 17 gf_X10_178 gM_0 rfl d_X10_stepBy_228 ?_
      refine x_imul d_X10_stepBy_231 ?_
      refine x_iload 1 d_X10_stepBy_232 rfl ?_
      refine x_iadd d_X10_stepBy_234 ?_
      refine x_aload_n 0 d_X10_stepBy_235 rfl rfl ?_
      refine x_getf 23 gf_X10_56 gM_0 rfl d_X10_stepBy_236 ?_
      refine x_iload 1 d_X10_stepBy_239 rfl ?_
      have hN := hQ.1
      have hQ := hQ.2
      refine x_lald gM_16 hN d_X10_stepBy_241 ?_
      have hN := hQ.1
      have hQ := hQ.2
      refine x_last gM_14 hN d_X10_stepBy_242 ?_
      obtain ⟨s17, e_s17⟩ : ∃ z : RT, z = rL s16 14 (vp_updL (s16.2.1 14) (((3 : Int32) * (s16.2.2 17)) + x_4).toNatClampNeg (s16.2.1 16 x_4.toNatClampNeg)) := ⟨_, rfl⟩
      have hQ := hQ s17 e_s17
      refine X.world (w2 := put w a 22 (shM a s17)) (by rw [e_s17]; exact sM_14) ?_
      obtain ⟨x18, e_x18⟩ : ∃ z : Int32, z = x_4 + (1 : Int32) := ⟨_, rfl⟩
      have hQ := hQ x18 e_x18
      refine x_iinc (v := x18) (lv2 := [(4, .int x18), (0, .ref a)]) 1 d_X10_stepBy_243 rfl (by rw [e_x18]; rfl) (by decide) rfl ?_
      refine x_goto (tgt := 174) d_X10_stepBy_246 (by decide) ?_
      refine x_sub [1, 0] (lv2 := [(0, .ref a), (4, .int x18)]) rfl ?_
      exact ih x18 s17 hQ
def lp_X10_stepBy_123 (a0 : Int32) (K : RT → Prop) : Nat → Int32 → Int32 → Int32 → RT → Prop
  | 0, _, _, _, _ => False
  | n + 1, x_2, x_3, x_4, y_0 => ((x_3 ≤ x_4 → vp_in (y_0.2.2 17) 1100 ∧ ∀ s10 : RT, s10 = rI y_0 9 (upd (y_0.1 9) (y_0.2.2 17).toNatClampNeg x_2) → vp_in (s10.2.2 17) 1100 ∧ ∀ s11 : RT, s11 = rI s10 10 (upd (s10.1 10) (s10.2.2 17).toNatClampNeg a0) → vp_in (s11.2.2 17) 1100 ∧ ∀ s12 : RT, s12 = rI s11 11 (upd (s11.1 11) (s11.2.2 17).toNatClampNeg x_3) → ∃ m : Nat, lp_X10_stepBy_174 a0 K m (0 : Int32) s12) ∧ (¬ x_3 ≤ x_4 → wp_X10_guesses y_0 x_2 a0 (fun (s19 : RT) => ∀ x20 : Int32, x20 = x_4 + (1 : Int32) → lp_X10_stepBy_123 a0 K n x_2 x_3 x20 s19)))
set_option maxHeartbeats 4000000 in
theorem jt_X10_stepBy_123 {G : GX} {l : Launch} {d : Nat} {w : HW} {a : Nat} {a0 : Int32} {K : RT → Prop} (hd : 6 ≤ d) : ∀ (n : Nat) (x_2 : Int32) (x_3 : Int32) (x_4 : Int32) (y_0 : RT), lp_X10_stepBy_123 a0 K n x_2 x_3 x_4 y_0 → X G l m_X10_stepBy d 0 0 0 0 123 [(0, .ref a), (1, .int a0), (2, .int x_2), (3, .int x_3), (4, .int x_4)] [] (put w a 22 (shM a y_0)) (fun r w2 => ∃ (z0 : RT), r = none ∧ w2 = put w a 22 (shM a z0) ∧ K z0) := by
  intro n
  induction n with
  | zero =>
    intro x_2 x_3 x_4 y_0 hQ
    exact hQ.elim
  | succ n ih =>
    intro x_2 x_3 x_4 y_0 hQ
    refine x_iload 4 d_X10_stepBy_123 rfl ?_
    refine x_iload_n 3 d_X10_stepBy_125 rfl rfl ?_
    refine x_icmp_ge (tgt := 141) d_X10_stepBy_126 (by decide) (fun c_126_9 => ?_) (fun c_126_9 => ?_)
    · have hQ := hQ.1 c_126_9
      refine x_aload_n 0 d_X10_stepBy_141 rfl rfl ?_
      refine x_getf 11 gf_X10_34 gM_0 rfl d_X10_stepBy_142 ?_
      refine x_aload_n 0 d_X10_stepBy_145 rfl rfl ?_
      refine x_getf 17 gf_X10_178 gM_0 rfl d_X10_stepBy_146 ?_
      refine x_iload_n 2 d_X10_stepBy_149 rfl rfl ?_
      have hN := hQ.1
      have hQ := hQ.2
      refine x_iast gM_9 hN d_X10_stepBy_150 ?_
      obtain ⟨s10, e_s10⟩ : ∃ z : RT, z = rI y_0 9 (upd (y_0.1 9) (y_0.2.2 17).toNatClampNeg x_2) := ⟨_, rfl⟩
      have hQ := hQ s10 e_s10
      refine X.world (w2 := put w a 22 (shM a s10)) (by rw [e_s10]; exact sM_9) ?_
      refine x_aload_n 0 d_X10_stepBy_151 rfl rfl ?_
      refine x_getf 12 gf_X10_37 gM_0 rfl d_X10_stepBy_152 ?_
      refine x_aload_n 0 d_X10_stepBy_155 rfl rfl ?_
      refine x_getf 17 gf_X10_178 gM_0 rfl d_X10_stepBy_156 ?_
      refine x_iload_n 1 d_X10_stepBy_159 rfl rfl ?_
      have hN := hQ.1
      have hQ := hQ.2
      refine x_iast gM_10 hN d_X10_stepBy_160 ?_
      obtain ⟨s11, e_s11⟩ : ∃ z : RT, z = rI s10 10 (upd (s10.1 10) (s10.2.2 17).toNatClampNeg a0) := ⟨_, rfl⟩
      have hQ := hQ s11 e_s11
      refine X.world (w2 := put w a 22 (shM a s11)) (by rw [e_s11]; exact sM_10) ?_
      refine x_aload_n 0 d_X10_stepBy_161 rfl rfl ?_
      refine x_getf 13 gf_X10_40 gM_0 rfl d_X10_stepBy_162 ?_
      refine x_aload_n 0 d_X10_stepBy_165 rfl rfl ?_
      refine x_getf 17 gf_X10_178 gM_0 rfl d_X10_stepBy_166 ?_
      refine x_iload_n 3 d_X10_stepBy_169 rfl rfl ?_
      have hN := hQ.1
      have hQ := hQ.2
      refine x_iast gM_11 hN d_X10_stepBy_170 ?_
      obtain ⟨s12, e_s12⟩ : ∃ z : RT, z = rI s11 11 (upd (s11.1 11) (s11.2.2 17).toNatClampNeg x_3) := ⟨_, rfl⟩
      have hQ := hQ s12 e_s12
      refine X.world (w2 := put w a 22 (shM a s12)) (by rw [e_s12]; exact sM_11) ?_
      refine x_iconst (v := (0 : Int32)) d_X10_stepBy_171 (by decide) ?_
      refine x_istore (lv2 := [(4, .int (0 : Int32)), (0, .ref a), (1, .int a0), (2, .int x_2), (3, .int x_3)]) d_X10_stepBy_172 (by decide) rfl ?_
      refine x_sub [1, 0] (lv2 := [(0, .ref a), (4, .int (0 : Int32))]) rfl ?_
      obtain ⟨m, hQ⟩ := hQ
      exact jt_X10_stepBy_174 hd m (0 : Int32) s12 hQ
    · have hQ := hQ.2 c_126_9
      refine x_aload_n 0 d_X10_stepBy_129 rfl rfl ?_
      refine x_iload_n 2 d_X10_stepBy_130 rfl rfl ?_
      refine x_iload_n 1 d_X10_stepBy_131 rfl rfl ?_
      refine x_invV (rest := []) (d' := d - 1) (mc' := 0) (ms' := 0) [.int x_2, .int a0] k_X10_guesses lk_X10_280 gM_0 rfl rfl rfl (Nat.le_of_ble_eq_true rfl) (by omega) (Nat.le_refl _) (Nat.le_refl _) d_X10_stepBy_132 ((sp_X10_guesses (d := d - 1) (by omega) hQ).mono (fun r w2 hr => ?_))
      obtain ⟨s19, rfl, rfl, hQ⟩ := hr
      obtain ⟨x20, e_x20⟩ : ∃ z : Int32, z = x_4 + (1 : Int32) := ⟨_, rfl⟩
      have hQ := hQ x20 e_x20
      refine x_iinc (v := x20) (lv2 := [(4, .int x20), (0, .ref a), (1, .int a0), (2, .int x_2), (3, .int x_3)]) 4 d_X10_stepBy_135 rfl (by rw [e_x20]; rfl) (by decide) rfl ?_
      refine x_goto (tgt := 123) d_X10_stepBy_138 (by decide) ?_
      refine x_sub [1, 2, 3, 4, 0] (lv2 := [(0, .ref a), (1, .int a0), (2, .int x_2), (3, .int x_3), (4, .int x20)]) rfl ?_
      exact ih x_2 x_3 x20 s19 hQ
def lp_X10_stepBy_54 (a0 : Int32) (K : RT → Prop) : Nat → Int32 → Int32 → RT → Prop
  | 0, _, _, _ => False
  | n + 1, x_2, x_3, y_0 => (((3 : Int32) ≤ x_3 → wp_X10_guesses y_0 x_2 a0 (fun (s6 : RT) => wp_X10_needsRounds s6 x_2 a0 (fun (r7 : Int32) => ((r7 = (0 : Int32) → ∃ m : Nat, lp_X10_stepBy_123 a0 K m x_2 (0 : Int32) (0 : Int32) s6) ∧ (¬ r7 = (0 : Int32) → vp_in (1 : Int32) 812 ∧ ∀ x21 : Int32, x21 = (s6.1 1 (1 : Int32).toNatClampNeg) → ∃ m : Nat, lp_X10_stepBy_123 a0 K m x_2 x21 (0 : Int32) s6))))) ∧ (¬ (3 : Int32) ≤ x_3 → vp_in x_3 3 ∧ vp_in x_3 3 ∧ wp_X10_held ((y_0.2.1 15 x_3.toNatClampNeg) + (((y_0.2.1 17 x_3.toNatClampNeg) * (a0.toInt64)) / (1000 : Int64))) (fun (r22 : Int64) => vp_in x_3 3 ∧ ∀ s23 : RT, s23 = rL y_0 16 (vp_updL (y_0.2.1 16) x_3.toNatClampNeg r22) → ∀ x24 : Int32, x24 = x_3 + (1 : Int32) → lp_X10_stepBy_54 a0 K n x_2 x24 s23)))
set_option maxHeartbeats 4000000 in
theorem jt_X10_stepBy_54 {G : GX} {l : Launch} {d : Nat} {w : HW} {a : Nat} {a0 : Int32} {K : RT → Prop} (hd : 6 ≤ d) : ∀ (n : Nat) (x_2 : Int32) (x_3 : Int32) (y_0 : RT), lp_X10_stepBy_54 a0 K n x_2 x_3 y_0 → X G l m_X10_stepBy d 0 0 0 0 54 [(0, .ref a), (1, .int a0), (2, .int x_2), (3, .int x_3)] [] (put w a 22 (shM a y_0)) (fun r w2 => ∃ (z0 : RT), r = none ∧ w2 = put w a 22 (shM a z0) ∧ K z0) := by
  intro n
  induction n with
  | zero =>
    intro x_2 x_3 y_0 hQ
    exact hQ.elim
  | succ n ih =>
    intro x_2 x_3 y_0 hQ
    refine x_iload_n 3 d_X10_stepBy_54 rfl rfl ?_
    refine x_iconst (v := (3 : Int32)) d_X10_stepBy_55 (by decide) ?_
    refine x_icmp_ge (tgt := 94) d_X10_stepBy_56 (by decide) (fun c_56_5 => ?_) (fun c_56_5 => ?_)
    · have hQ := hQ.1 c_56_5
      refine x_aload_n 0 d_X10_stepBy_94 rfl rfl ?_
      refine x_iload_n 2 d_X10_stepBy_95 rfl rfl ?_
      refine x_iload_n 1 d_X10_stepBy_96 rfl rfl ?_
      refine x_invV (rest := []) (d' := d - 1) (mc' := 0) (ms' := 0) [.int x_2, .int a0] k_X10_guesses lk_X10_280 gM_0 rfl rfl rfl (Nat.le_of_ble_eq_true rfl) (by omega) (Nat.le_refl _) (Nat.le_refl _) d_X10_stepBy_97 ((sp_X10_guesses (d := d - 1) (by omega) hQ).mono (fun r w2 hr => ?_))
      obtain ⟨s6, rfl, rfl, hQ⟩ := hr
      refine x_aload_n 0 d_X10_stepBy_100 rfl rfl ?_
      refine x_iload_n 2 d_X10_stepBy_101 rfl rfl ?_
      refine x_iload_n 1 d_X10_stepBy_102 rfl rfl ?_
      refine x_invV (rest := []) (d' := d - 1) (mc' := 0) (ms' := 0) [.int x_2, .int a0] k_X10_needsRounds lk_X10_284 gM_0 rfl rfl rfl (Nat.le_of_ble_eq_true rfl) (by omega) (Nat.le_refl _) (Nat.le_refl _) d_X10_stepBy_103 ((sp_X10_needsRounds (d := d - 1) (by omega) hQ).mono (fun r w2 hr => ?_))
      obtain ⟨r7, rfl, rfl, hQ⟩ := hr
      refine x_if_eq (tgt := 118) d_X10_stepBy_106 (by decide) (fun c_106_8 => ?_) (fun c_106_8 => ?_)
      · have hQ := hQ.1 c_106_8
        refine x_iconst (v := (0 : Int32)) d_X10_stepBy_118 (by decide) ?_
        refine x_istore_n (lv2 := [(3, .int (0 : Int32)), (0, .ref a), (1, .int a0), (2, .int x_2)]) d_X10_stepBy_119 rfl (by decide) rfl ?_
        refine x_iconst (v := (0 : Int32)) d_X10_stepBy_120 (by decide) ?_
        refine x_istore (lv2 := [(4, .int (0 : Int32)), (3, .int (0 : Int32)), (0, .ref a), (1, .int a0), (2, .int x_2)]) d_X10_stepBy_121 (by decide) rfl ?_
        refine x_sub [2, 3, 4, 1, 0] (lv2 := [(0, .ref a), (1, .int a0), (2, .int x_2), (3, .int (0 : Int32)), (4, .int (0 : Int32))]) rfl ?_
        obtain ⟨m, hQ⟩ := hQ
        exact jt_X10_stepBy_123 hd m x_2 (0 : Int32) (0 : Int32) s6 hQ
      · have hQ := hQ.2 c_106_8
        refine x_aload_n 0 d_X10_stepBy_109 rfl rfl ?_
        refine x_getf 0 gf_X10_7 gM_0 rfl d_X10_stepBy_110 ?_
        refine x_iconst (v := (1 : Int32)) d_X10_stepBy_113 (by decide) ?_
        have hN := hQ.1
        have hQ := hQ.2
        refine x_iald gM_1 hN d_X10_stepBy_114 ?_
        refine x_goto (tgt := 119) d_X10_stepBy_115 (by decide) ?_
        refine x_topi (fun x21 e_x21 => ?_)
        have hQ := hQ x21 e_x21
        refine x_istore_n (lv2 := [(3, .int x21), (0, .ref a), (1, .int a0), (2, .int x_2)]) d_X10_stepBy_119 rfl (by decide) rfl ?_
        refine x_iconst (v := (0 : Int32)) d_X10_stepBy_120 (by decide) ?_
        refine x_istore (lv2 := [(4, .int (0 : Int32)), (3, .int x21), (0, .ref a), (1, .int a0), (2, .int x_2)]) d_X10_stepBy_121 (by decide) rfl ?_
        refine x_sub [2, 3, 4, 1, 0] (lv2 := [(0, .ref a), (1, .int a0), (2, .int x_2), (3, .int x21), (4, .int (0 : Int32))]) rfl ?_
        obtain ⟨m, hQ⟩ := hQ
        exact jt_X10_stepBy_123 hd m x_2 x21 (0 : Int32) s6 hQ
    · have hQ := hQ.2 c_56_5
      refine x_aload_n 0 d_X10_stepBy_59 rfl rfl ?_
      refine x_getf 23 gf_X10_56 gM_0 rfl d_X10_stepBy_60 ?_
      refine x_iload_n 3 d_X10_stepBy_63 rfl rfl ?_
      refine x_aload_n 0 d_X10_stepBy_64 rfl rfl ?_
      refine x_getf 22 gf_X10_53 gM_0 rfl d_X10_stepBy_65 ?_
      refine x_iload_n 3 d_X10_stepBy_68 rfl rfl ?_
      have hN := hQ.1
      have hQ := hQ.2
      refine x_lald gM_15 hN d_X10_stepBy_69 ?_
      refine x_aload_n 0 d_X10_stepBy_70 rfl rfl ?_
      refine x_getf 24 gf_X10_59 gM_0 rfl d_X10_stepBy_71 ?_
      refine x_iload_n 3 d_X10_stepBy_74 rfl rfl ?_
      have hN := hQ.1
      have hQ := hQ.2
      refine x_lald gM_17 hN d_X10_stepBy_75 ?_
      refine x_iload_n 1 d_X10_stepBy_76 rfl rfl ?_
      refine x_i2l d_X10_stepBy_77 rfl ?_
      refine x_lmul d_X10_stepBy_78 ?_
      refine x_ldc2 (v := (1000 : Int64)) kc_X10_176 d_X10_stepBy_79 ?_
      refine x_ldiv d_X10_stepBy_82 (by decide) ?_
      refine x_ladd d_X10_stepBy_83 ?_
      refine x_invS (rest := [.int x_3, .ref (a + 16)]) (d' := d - 1) (mc' := 0) (ms' := 0) [.long ((y_0.2.1 15 x_3.toNatClampNeg) + (((y_0.2.1 17 x_3.toNatClampNeg) * (a0.toInt64)) / (1000 : Int64)))] k_X10_held lk_X10_191 rfl rfl (Nat.le_of_ble_eq_true rfl) (by omega) (Nat.le_refl _) (Nat.le_refl _) d_X10_stepBy_84 ((sp_X10_held (d := d - 1) (by omega) hQ).mono (fun r w2 hr => ?_))
      obtain ⟨r22, rfl, rfl, hQ⟩ := hr
      have hN := hQ.1
      have hQ := hQ.2
      refine x_last gM_16 hN d_X10_stepBy_87 ?_
      obtain ⟨s23, e_s23⟩ : ∃ z : RT, z = rL y_0 16 (vp_updL (y_0.2.1 16) x_3.toNatClampNeg r22) := ⟨_, rfl⟩
      have hQ := hQ s23 e_s23
      refine X.world (w2 := put w a 22 (shM a s23)) (by rw [e_s23]; exact sM_16) ?_
      obtain ⟨x24, e_x24⟩ : ∃ z : Int32, z = x_3 + (1 : Int32) := ⟨_, rfl⟩
      have hQ := hQ x24 e_x24
      refine x_iinc (v := x24) (lv2 := [(3, .int x24), (0, .ref a), (1, .int a0), (2, .int x_2)]) 3 d_X10_stepBy_88 rfl (by rw [e_x24]; rfl) (by decide) rfl ?_
      refine x_goto (tgt := 54) d_X10_stepBy_91 (by decide) ?_
      refine x_sub [1, 2, 3, 0] (lv2 := [(0, .ref a), (1, .int a0), (2, .int x_2), (3, .int x24)]) rfl ?_
      exact ih x_2 x24 s23 hQ
def lp_X10_stepBy_17 (a0 : Int32) (K : RT → Prop) : Nat → Int32 → Int32 → RT → Prop
  | 0, _, _, _ => False
  | n + 1, x_2, x_3, y_0 => (((3 : Int32) ≤ x_3 → ∃ m : Nat, lp_X10_stepBy_54 a0 K m x_2 (0 : Int32) y_0) ∧ (¬ (3 : Int32) ≤ x_3 → wp_X10_toldValue y_0 x_3 x_2 (fun (r25 : Int64) => vp_in x_3 3 ∧ ∀ s26 : RT, s26 = rL y_0 15 (vp_updL (y_0.2.1 15) x_3.toNatClampNeg r25) → wp_X10_worksOut s26 x_3 x_2 (fun (r27 : Int64) (s28 : RT) => vp_in x_3 3 ∧ ∀ s29 : RT, s29 = rL s28 17 (vp_updL (s28.2.1 17) x_3.toNatClampNeg r27) → ∀ x30 : Int32, x30 = x_3 + (1 : Int32) → lp_X10_stepBy_17 a0 K n x_2 x30 s29))))
set_option maxHeartbeats 4000000 in
theorem jt_X10_stepBy_17 {G : GX} {l : Launch} {d : Nat} {w : HW} {a : Nat} {a0 : Int32} {K : RT → Prop} (hd : 6 ≤ d) : ∀ (n : Nat) (x_2 : Int32) (x_3 : Int32) (y_0 : RT), lp_X10_stepBy_17 a0 K n x_2 x_3 y_0 → X G l m_X10_stepBy d 0 0 0 0 17 [(0, .ref a), (1, .int a0), (2, .int x_2), (3, .int x_3)] [] (put w a 22 (shM a y_0)) (fun r w2 => ∃ (z0 : RT), r = none ∧ w2 = put w a 22 (shM a z0) ∧ K z0) := by
  intro n
  induction n with
  | zero =>
    intro x_2 x_3 y_0 hQ
    exact hQ.elim
  | succ n ih =>
    intro x_2 x_3 y_0 hQ
    refine x_iload_n 3 d_X10_stepBy_17 rfl rfl ?_
    refine x_iconst (v := (3 : Int32)) d_X10_stepBy_18 (by decide) ?_
    refine x_icmp_ge (tgt := 52) d_X10_stepBy_19 (by decide) (fun c_19_4 => ?_) (fun c_19_4 => ?_)
    · have hQ := hQ.1 c_19_4
      refine x_iconst (v := (0 : Int32)) d_X10_stepBy_52 (by decide) ?_
      refine x_istore_n (lv2 := [(3, .int (0 : Int32)), (0, .ref a), (1, .int a0), (2, .int x_2)]) d_X10_stepBy_53 rfl (by decide) rfl ?_
      refine x_sub [1, 2, 3, 0] (lv2 := [(0, .ref a), (1, .int a0), (2, .int x_2), (3, .int (0 : Int32))]) rfl ?_
      obtain ⟨m, hQ⟩ := hQ
      exact jt_X10_stepBy_54 hd m x_2 (0 : Int32) y_0 hQ
    · have hQ := hQ.2 c_19_4
      refine x_aload_n 0 d_X10_stepBy_22 rfl rfl ?_
      refine x_getf 22 gf_X10_53 gM_0 rfl d_X10_stepBy_23 ?_
      refine x_iload_n 3 d_X10_stepBy_26 rfl rfl ?_
      refine x_aload_n 0 d_X10_stepBy_27 rfl rfl ?_
      refine x_iload_n 3 d_X10_stepBy_28 rfl rfl ?_
      refine x_iload_n 2 d_X10_stepBy_29 rfl rfl ?_
      refine x_invV (rest := [.int x_3, .ref (a + 15)]) (d' := d - 1) (mc' := 0) (ms' := 0) [.int x_3, .int x_2] k_X10_toldValue lk_X10_210 gM_0 rfl rfl rfl (Nat.le_of_ble_eq_true rfl) (by omega) (Nat.le_refl _) (Nat.le_refl _) d_X10_stepBy_30 ((sp_X10_toldValue (d := d - 1) (by omega) hQ).mono (fun r w2 hr => ?_))
      obtain ⟨r25, rfl, rfl, hQ⟩ := hr
      have hN := hQ.1
      have hQ := hQ.2
      refine x_last gM_15 hN d_X10_stepBy_33 ?_
      obtain ⟨s26, e_s26⟩ : ∃ z : RT, z = rL y_0 15 (vp_updL (y_0.2.1 15) x_3.toNatClampNeg r25) := ⟨_, rfl⟩
      have hQ := hQ s26 e_s26
      refine X.world (w2 := put w a 22 (shM a s26)) (by rw [e_s26]; exact sM_15) ?_
      refine x_aload_n 0 d_X10_stepBy_34 rfl rfl ?_
      refine x_getf 24 gf_X10_59 gM_0 rfl d_X10_stepBy_35 ?_
      refine x_iload_n 3 d_X10_stepBy_38 rfl rfl ?_
      refine x_aload_n 0 d_X10_stepBy_39 rfl rfl ?_
      refine x_iload_n 3 d_X10_stepBy_40 rfl rfl ?_
      refine x_iload_n 2 d_X10_stepBy_41 rfl rfl ?_
      refine x_invV (rest := [.int x_3, .ref (a + 17)]) (d' := d - 1) (mc' := 0) (ms' := 0) [.int x_3, .int x_2] k_X10_worksOut lk_X10_277 gM_0 rfl rfl rfl (Nat.le_of_ble_eq_true rfl) (by omega) (Nat.le_refl _) (Nat.le_refl _) d_X10_stepBy_42 ((sp_X10_worksOut (d := d - 1) (by omega) hQ).mono (fun r w2 hr => ?_))
      obtain ⟨r27, s28, rfl, rfl, hQ⟩ := hr
      have hN := hQ.1
      have hQ := hQ.2
      refine x_last gM_17 hN d_X10_stepBy_45 ?_
      obtain ⟨s29, e_s29⟩ : ∃ z : RT, z = rL s28 17 (vp_updL (s28.2.1 17) x_3.toNatClampNeg r27) := ⟨_, rfl⟩
      have hQ := hQ s29 e_s29
      refine X.world (w2 := put w a 22 (shM a s29)) (by rw [e_s29]; exact sM_17) ?_
      obtain ⟨x30, e_x30⟩ : ∃ z : Int32, z = x_3 + (1 : Int32) := ⟨_, rfl⟩
      have hQ := hQ x30 e_x30
      refine x_iinc (v := x30) (lv2 := [(3, .int x30), (0, .ref a), (1, .int a0), (2, .int x_2)]) 3 d_X10_stepBy_46 rfl (by rw [e_x30]; rfl) (by decide) rfl ?_
      refine x_goto (tgt := 17) d_X10_stepBy_49 (by decide) ?_
      refine x_sub [1, 2, 3, 0] (lv2 := [(0, .ref a), (1, .int a0), (2, .int x_2), (3, .int x30)]) rfl ?_
      exact ih x_2 x30 s29 hQ
def wp_X10_stepBy (s : RT) (a0 : Int32) (K : RT → Prop) : Prop := ∀ x1 : Int32, x1 = (s.2.2 18) → ∀ s2 : RT, s2 = rS s 20 x1 → ∀ s3 : RT, s3 = rS s2 21 a0 → ∃ m : Nat, lp_X10_stepBy_17 a0 K m x1 (0 : Int32) s3
set_option maxHeartbeats 4000000 in
theorem sp_X10_stepBy {G : GX} {l : Launch} {d : Nat} {w : HW} {a : Nat} {s : RT} {a0 : Int32} {K : RT → Prop} (hd : 6 ≤ d) (hQ : wp_X10_stepBy s a0 K) : Sp G l m_X10_stepBy d 0 0 [.ref a, .int a0] (put w a 22 (shM a s)) (fun r w2 => ∃ (z0 : RT), r = none ∧ w2 = put w a 22 (shM a z0) ∧ K z0) := by
  refine Sp.ofX k_X10_stepBy.1.1 (Nat.le_of_ble_eq_true rfl) ?_
  refine X.lv (lv2 := [(0, .ref a), (1, .int a0)]) rfl ?_
  refine x_aload_n 0 d_X10_stepBy_0 rfl rfl ?_
  refine x_getf 18 gf_X10_91 gM_0 rfl d_X10_stepBy_1 ?_
  refine x_topi (fun x1 e_x1 => ?_)
  have hQ := hQ x1 e_x1
  refine x_istore_n (lv2 := [(2, .int x1), (0, .ref a), (1, .int a0)]) d_X10_stepBy_4 rfl (by decide) rfl ?_
  refine x_aload_n 1 d_X10_stepBy_5 rfl rfl ?_
  refine x_iload_n 0 d_X10_stepBy_6 rfl rfl ?_
  refine x_putf 20 (.int) pf_X10_204 gM_0 rfl rfl (Nat.le_of_ble_eq_true rfl) d_X10_stepBy_7 ?_
  obtain ⟨s2, e_s2⟩ : ∃ z : RT, z = rS s 20 x1 := ⟨_, rfl⟩
  have hQ := hQ s2 e_s2
  refine X.world (w2 := put w a 22 (shM a s2)) (by rw [e_s2]; exact sM_0_20) ?_
  refine x_aload_n 1 d_X10_stepBy_10 rfl rfl ?_
  refine x_iload_n 2 d_X10_stepBy_11 rfl rfl ?_
  refine x_putf 21 (.int) pf_X10_207 gM_0 rfl rfl (Nat.le_of_ble_eq_true rfl) d_X10_stepBy_12 ?_
  obtain ⟨s3, e_s3⟩ : ∃ z : RT, z = rS s2 21 a0 := ⟨_, rfl⟩
  have hQ := hQ s3 e_s3
  refine X.world (w2 := put w a 22 (shM a s3)) (by rw [e_s3]; exact sM_0_21) ?_
  refine x_iconst (v := (0 : Int32)) d_X10_stepBy_15 (by decide) ?_
  refine x_istore_n (lv2 := [(3, .int (0 : Int32)), (2, .int x1), (0, .ref a), (1, .int a0)]) d_X10_stepBy_16 rfl (by decide) rfl ?_
  refine x_sub [2, 3, 1, 0] (lv2 := [(0, .ref a), (1, .int a0), (2, .int x1), (3, .int (0 : Int32))]) rfl ?_
  obtain ⟨m, hQ⟩ := hQ
  exact jt_X10_stepBy_17 hd m x1 (0 : Int32) s3 hQ
def jp_X10_goesTo_85 (a0 : Int32) (K : RT → Prop) (k_0 : RT → Prop) (t_0 : Int32) (y_0 : RT) : Prop := wp_X10_stepBy y_0 t_0 (fun (s6 : RT) => ∀ s7 : RT, s7 = rS s6 18 ((s6.2.2 18) + t_0) → k_0 s7)
set_option maxHeartbeats 4000000 in
theorem jt_X10_goesTo_85 {G : GX} {l : Launch} {d : Nat} {w : HW} {a : Nat} {a0 : Int32} {K : RT → Prop} {k_0 : RT → Prop} (hd : 7 ≤ d) (hk_0 : ∀ (y_0 : RT), k_0 y_0 → X G l m_X10_goesTo d 0 0 0 0 0 [(0, .ref a), (1, .int a0)] [] (put w a 22 (shM a y_0)) (fun r w2 => ∃ (z0 : RT), r = none ∧ w2 = put w a 22 (shM a z0) ∧ K z0)) (t_0 : Int32) (y_0 : RT) (hQ : jp_X10_goesTo_85 a0 K k_0 t_0 y_0) : X G l m_X10_goesTo d 0 0 0 0 85 [(0, .ref a), (1, .int a0)] [.int t_0] (put w a 22 (shM a y_0)) (fun r w2 => ∃ (z0 : RT), r = none ∧ w2 = put w a 22 (shM a z0) ∧ K z0) := by
  refine x_istore_n (lv2 := [(2, .int t_0), (0, .ref a), (1, .int a0)]) d_X10_goesTo_85 rfl (by decide) rfl ?_
  refine x_aload_n 1 d_X10_goesTo_86 rfl rfl ?_
  refine x_iload_n 0 d_X10_goesTo_87 rfl rfl ?_
  refine x_invV (rest := []) (d' := d - 1) (mc' := 0) (ms' := 0) [.int t_0] k_X10_stepBy lk_X10_274 gM_0 rfl rfl rfl (Nat.le_of_ble_eq_true rfl) (by omega) (Nat.le_refl _) (Nat.le_refl _) d_X10_goesTo_88 ((sp_X10_stepBy (d := d - 1) (by omega) hQ).mono (fun r w2 hr => ?_))
  obtain ⟨s6, rfl, rfl, hQ⟩ := hr
  refine x_aload_n 1 d_X10_goesTo_91 rfl rfl ?_
  refine x_dup d_X10_goesTo_92 rfl ?_
  refine x_getf 18 gf_X10_91 gM_0 rfl d_X10_goesTo_93 ?_
  refine x_iload_n 0 d_X10_goesTo_96 rfl rfl ?_
  refine x_iadd d_X10_goesTo_97 ?_
  refine x_putf 18 (.int) pf_X10_91 gM_0 rfl rfl (Nat.le_of_ble_eq_true rfl) d_X10_goesTo_98 ?_
  obtain ⟨s7, e_s7⟩ : ∃ z : RT, z = rS s6 18 ((s6.2.2 18) + t_0) := ⟨_, rfl⟩
  have hQ := hQ s7 e_s7
  refine X.world (w2 := put w a 22 (shM a s7)) (by rw [e_s7]; exact sM_0_18) ?_
  refine x_goto (tgt := 0) d_X10_goesTo_101 (by decide) ?_
  refine x_sub [1, 2] (lv2 := [(0, .ref a), (1, .int a0)]) rfl ?_
  exact hk_0 s7 hQ
def jp_X10_goesTo_84 (a0 : Int32) (K : RT → Prop) (k_0 : RT → Prop) (x_2 : Int32) (y_0 : RT) : Prop := jp_X10_goesTo_85 a0 K k_0 x_2 y_0
set_option maxHeartbeats 4000000 in
theorem jt_X10_goesTo_84 {G : GX} {l : Launch} {d : Nat} {w : HW} {a : Nat} {a0 : Int32} {K : RT → Prop} {k_0 : RT → Prop} (hd : 7 ≤ d) (hk_0 : ∀ (y_0 : RT), k_0 y_0 → X G l m_X10_goesTo d 0 0 0 0 0 [(0, .ref a), (1, .int a0)] [] (put w a 22 (shM a y_0)) (fun r w2 => ∃ (z0 : RT), r = none ∧ w2 = put w a 22 (shM a z0) ∧ K z0)) (x_2 : Int32) (y_0 : RT) (hQ : jp_X10_goesTo_84 a0 K k_0 x_2 y_0) : X G l m_X10_goesTo d 0 0 0 0 84 [(0, .ref a), (1, .int a0), (2, .int x_2)] [] (put w a 22 (shM a y_0)) (fun r w2 => ∃ (z0 : RT), r = none ∧ w2 = put w a 22 (shM a z0) ∧ K z0) := by
  refine x_iload_n 2 d_X10_goesTo_84 rfl rfl ?_
  refine x_sub [0, 1] (lv2 := [(0, .ref a), (1, .int a0)]) rfl ?_
  exact jt_X10_goesTo_85 hd hk_0 x_2 y_0 hQ
def jp_X10_goesTo_35 (a0 : Int32) (K : RT → Prop) (k_0 : RT → Prop) (t_0 : Int32) (y_0 : RT) : Prop := wp_X10_nextBreak y_0 (y_0.2.2 18) (fun (r4 : Int32) => ((t_0 ≤ (r4 - (y_0.2.2 18)) → jp_X10_goesTo_84 a0 K k_0 t_0 y_0) ∧ (¬ t_0 ≤ (r4 - (y_0.2.2 18)) → wp_X10_nextBreak y_0 (y_0.2.2 18) (fun (r8 : Int32) => ((r8 ≤ (y_0.2.2 18) → jp_X10_goesTo_84 a0 K k_0 t_0 y_0) ∧ (¬ r8 ≤ (y_0.2.2 18) → wp_X10_nextBreak y_0 (y_0.2.2 18) (fun (r10 : Int32) => jp_X10_goesTo_85 a0 K k_0 (r10 - (y_0.2.2 18)) y_0)))))))
set_option maxHeartbeats 4000000 in
theorem jt_X10_goesTo_35 {G : GX} {l : Launch} {d : Nat} {w : HW} {a : Nat} {a0 : Int32} {K : RT → Prop} {k_0 : RT → Prop} (hd : 7 ≤ d) (hk_0 : ∀ (y_0 : RT), k_0 y_0 → X G l m_X10_goesTo d 0 0 0 0 0 [(0, .ref a), (1, .int a0)] [] (put w a 22 (shM a y_0)) (fun r w2 => ∃ (z0 : RT), r = none ∧ w2 = put w a 22 (shM a z0) ∧ K z0)) (t_0 : Int32) (y_0 : RT) (hQ : jp_X10_goesTo_35 a0 K k_0 t_0 y_0) : X G l m_X10_goesTo d 0 0 0 0 35 [(0, .ref a), (1, .int a0)] [.int t_0] (put w a 22 (shM a y_0)) (fun r w2 => ∃ (z0 : RT), r = none ∧ w2 = put w a 22 (shM a z0) ∧ K z0) := by
  refine x_istore_n (lv2 := [(2, .int t_0), (0, .ref a), (1, .int a0)]) d_X10_goesTo_35 rfl (by decide) rfl ?_
  refine x_aload_n 1 d_X10_goesTo_36 rfl rfl ?_
  refine x_aload_n 1 d_X10_goesTo_37 rfl rfl ?_
  refine x_getf 18 gf_X10_91 gM_0 rfl d_X10_goesTo_38 ?_
  refine x_invV (rest := []) (d' := d - 1) (mc' := 0) (ms' := 0) [.int (y_0.2.2 18)] k_X10_nextBreak lk_X10_271 gM_0 rfl rfl rfl (Nat.le_of_ble_eq_true rfl) (by omega) (Nat.le_refl _) (Nat.le_refl _) d_X10_goesTo_41 ((sp_X10_nextBreak (d := d - 1) (by omega) hQ).mono (fun r w2 hr => ?_))
  obtain ⟨r4, rfl, rfl, hQ⟩ := hr
  refine x_aload_n 1 d_X10_goesTo_44 rfl rfl ?_
  refine x_getf 18 gf_X10_91 gM_0 rfl d_X10_goesTo_45 ?_
  refine x_isub d_X10_goesTo_48 ?_
  refine x_iload_n 0 d_X10_goesTo_49 rfl rfl ?_
  refine x_icmp_ge (tgt := 84) d_X10_goesTo_50 (by decide) (fun c_50_5 => ?_) (fun c_50_5 => ?_)
  · have hQ := hQ.1 c_50_5
    refine x_sub [1, 2, 0] (lv2 := [(0, .ref a), (1, .int a0), (2, .int t_0)]) rfl ?_
    exact jt_X10_goesTo_84 hd hk_0 t_0 y_0 hQ
  · have hQ := hQ.2 c_50_5
    refine x_aload_n 1 d_X10_goesTo_53 rfl rfl ?_
    refine x_aload_n 1 d_X10_goesTo_54 rfl rfl ?_
    refine x_getf 18 gf_X10_91 gM_0 rfl d_X10_goesTo_55 ?_
    refine x_invV (rest := []) (d' := d - 1) (mc' := 0) (ms' := 0) [.int (y_0.2.2 18)] k_X10_nextBreak lk_X10_271 gM_0 rfl rfl rfl (Nat.le_of_ble_eq_true rfl) (by omega) (Nat.le_refl _) (Nat.le_refl _) d_X10_goesTo_58 ((sp_X10_nextBreak (d := d - 1) (by omega) hQ).mono (fun r w2 hr => ?_))
    obtain ⟨r8, rfl, rfl, hQ⟩ := hr
    refine x_aload_n 1 d_X10_goesTo_61 rfl rfl ?_
    refine x_getf 18 gf_X10_91 gM_0 rfl d_X10_goesTo_62 ?_
    refine x_icmp_le (tgt := 84) d_X10_goesTo_65 (by decide) (fun c_65_9 => ?_) (fun c_65_9 => ?_)
    · have hQ := hQ.1 c_65_9
      refine x_sub [1, 2, 0] (lv2 := [(0, .ref a), (1, .int a0), (2, .int t_0)]) rfl ?_
      exact jt_X10_goesTo_84 hd hk_0 t_0 y_0 hQ
    · have hQ := hQ.2 c_65_9
      refine x_aload_n 1 d_X10_goesTo_68 rfl rfl ?_
      refine x_aload_n 1 d_X10_goesTo_69 rfl rfl ?_
      refine x_getf 18 gf_X10_91 gM_0 rfl d_X10_goesTo_70 ?_
      refine x_invV (rest := []) (d' := d - 1) (mc' := 0) (ms' := 0) [.int (y_0.2.2 18)] k_X10_nextBreak lk_X10_271 gM_0 rfl rfl rfl (Nat.le_of_ble_eq_true rfl) (by omega) (Nat.le_refl _) (Nat.le_refl _) d_X10_goesTo_73 ((sp_X10_nextBreak (d := d - 1) (by omega) hQ).mono (fun r w2 hr => ?_))
      obtain ⟨r10, rfl, rfl, hQ⟩ := hr
      refine x_aload_n 1 d_X10_goesTo_76 rfl rfl ?_
      refine x_getf 18 gf_X10_91 gM_0 rfl d_X10_goesTo_77 ?_
      refine x_isub d_X10_goesTo_80 ?_
      refine x_goto (tgt := 85) d_X10_goesTo_81 (by decide) ?_
      refine x_sub [1, 2] (lv2 := [(0, .ref a), (1, .int a0)]) rfl ?_
      exact jt_X10_goesTo_85 hd hk_0 (r10 - (y_0.2.2 18)) y_0 hQ
def lp_X10_goesTo_0 (a0 : Int32) (K : RT → Prop) : Nat → RT → Prop
  | 0, _ => False
  | n + 1, y_0 => ((a0 ≤ (y_0.2.2 18) → K y_0) ∧ (¬ a0 ≤ (y_0.2.2 18) → vp_in (0 : Int32) 812 ∧ ∀ x2 : Int32, x2 = (y_0.1 1 (0 : Int32).toNatClampNeg) → ((x2 ≤ (a0 - (y_0.2.2 18)) → jp_X10_goesTo_35 a0 K (fun v0 => lp_X10_goesTo_0 a0 K n v0) x2 y_0) ∧ (¬ x2 ≤ (a0 - (y_0.2.2 18)) → jp_X10_goesTo_35 a0 K (fun v0 => lp_X10_goesTo_0 a0 K n v0) (a0 - (y_0.2.2 18)) y_0))))
set_option maxHeartbeats 4000000 in
theorem jt_X10_goesTo_0 {G : GX} {l : Launch} {d : Nat} {w : HW} {a : Nat} {a0 : Int32} {K : RT → Prop} (hd : 7 ≤ d) : ∀ (n : Nat) (y_0 : RT), lp_X10_goesTo_0 a0 K n y_0 → X G l m_X10_goesTo d 0 0 0 0 0 [(0, .ref a), (1, .int a0)] [] (put w a 22 (shM a y_0)) (fun r w2 => ∃ (z0 : RT), r = none ∧ w2 = put w a 22 (shM a z0) ∧ K z0) := by
  intro n
  induction n with
  | zero =>
    intro y_0 hQ
    exact hQ.elim
  | succ n ih =>
    intro y_0 hQ
    refine x_aload_n 0 d_X10_goesTo_0 rfl rfl ?_
    refine x_getf 18 gf_X10_91 gM_0 rfl d_X10_goesTo_1 ?_
    refine x_iload_n 1 d_X10_goesTo_4 rfl rfl ?_
    refine x_icmp_ge (tgt := 104) d_X10_goesTo_5 (by decide) (fun c_5_1 => ?_) (fun c_5_1 => ?_)
    · have hQ := hQ.1 c_5_1
      exact x_vret (retV d_X10_goesTo_104 rfl) ⟨_, rfl, rfl, hQ⟩
    · have hQ := hQ.2 c_5_1
      refine x_aload_n 0 d_X10_goesTo_8 rfl rfl ?_
      refine x_getf 0 gf_X10_7 gM_0 rfl d_X10_goesTo_9 ?_
      refine x_iconst (v := (0 : Int32)) d_X10_goesTo_12 (by decide) ?_
      have hN := hQ.1
      have hQ := hQ.2
      refine x_iald gM_1 hN d_X10_goesTo_13 ?_
      refine x_topi (fun x2 e_x2 => ?_)
      have hQ := hQ x2 e_x2
      refine x_istore_n (lv2 := [(2, .int x2), (0, .ref a), (1, .int a0)]) d_X10_goesTo_14 rfl (by decide) rfl ?_
      refine x_iload_n 2 d_X10_goesTo_15 rfl rfl ?_
      refine x_aload_n 1 d_X10_goesTo_16 rfl rfl ?_
      refine x_getf 18 gf_X10_91 gM_0 rfl d_X10_goesTo_17 ?_
      refine x_isub d_X10_goesTo_20 ?_
      refine x_iload_n 0 d_X10_goesTo_21 rfl rfl ?_
      refine x_icmp_ge (tgt := 34) d_X10_goesTo_22 (by decide) (fun c_22_3 => ?_) (fun c_22_3 => ?_)
      · have hQ := hQ.1 c_22_3
        refine x_iload_n 0 d_X10_goesTo_34 rfl rfl ?_
        refine x_sub [1, 2] (lv2 := [(0, .ref a), (1, .int a0)]) rfl ?_
        exact jt_X10_goesTo_35 hd ih x2 y_0 hQ
      · have hQ := hQ.2 c_22_3
        refine x_iload_n 2 d_X10_goesTo_25 rfl rfl ?_
        refine x_aload_n 1 d_X10_goesTo_26 rfl rfl ?_
        refine x_getf 18 gf_X10_91 gM_0 rfl d_X10_goesTo_27 ?_
        refine x_isub d_X10_goesTo_30 ?_
        refine x_goto (tgt := 35) d_X10_goesTo_31 (by decide) ?_
        refine x_sub [1, 2] (lv2 := [(0, .ref a), (1, .int a0)]) rfl ?_
        exact jt_X10_goesTo_35 hd ih (a0 - (y_0.2.2 18)) y_0 hQ
def wp_X10_goesTo (s : RT) (a0 : Int32) (K : RT → Prop) : Prop := ∃ m : Nat, lp_X10_goesTo_0 a0 K m s
set_option maxHeartbeats 4000000 in
theorem sp_X10_goesTo {G : GX} {l : Launch} {d : Nat} {w : HW} {a : Nat} {s : RT} {a0 : Int32} {K : RT → Prop} (hd : 7 ≤ d) (hQ : wp_X10_goesTo s a0 K) : Sp G l m_X10_goesTo d 0 0 [.ref a, .int a0] (put w a 22 (shM a s)) (fun r w2 => ∃ (z0 : RT), r = none ∧ w2 = put w a 22 (shM a z0) ∧ K z0) := by
  refine Sp.ofX k_X10_goesTo.1.1 (Nat.le_of_ble_eq_true rfl) ?_
  refine X.lv (lv2 := [(0, .ref a), (1, .int a0)]) rfl ?_
  refine x_sub [0, 1] (lv2 := [(0, .ref a), (1, .int a0)]) rfl ?_
  obtain ⟨m, hQ⟩ := hQ
  exact jt_X10_goesTo_0 hd m s hQ
def lp_X10_solvesAll_16 (K : RT → Prop) : Nat → Int32 → RT → Prop
  | 0, _, _ => False
  | n + 1, x_1, y_0 => vp_in (291 : Int32) 812 ∧ (((y_0.1 1 (291 : Int32).toNatClampNeg) ≤ x_1 → K y_0) ∧ (¬ (y_0.1 1 (291 : Int32).toNatClampNeg) ≤ x_1 → vp_in ((292 : Int32) + x_1) 812 ∧ wp_X10_goesTo y_0 (y_0.1 1 ((292 : Int32) + x_1).toNatClampNeg) (fun (s5 : RT) => ∀ x6 : Int32, x6 = x_1 + (1 : Int32) → lp_X10_solvesAll_16  K n x6 s5)))
set_option maxHeartbeats 4000000 in
theorem jt_X10_solvesAll_16 {G : GX} {l : Launch} {d : Nat} {w : HW} {a : Nat} {K : RT → Prop} (hd : 8 ≤ d) : ∀ (n : Nat) (x_1 : Int32) (y_0 : RT), lp_X10_solvesAll_16 K n x_1 y_0 → X G l m_X10_solvesAll d 0 0 0 0 16 [(0, .ref a), (1, .int x_1)] [] (put w a 22 (shM a y_0)) (fun r w2 => ∃ (z0 : RT), r = none ∧ w2 = put w a 22 (shM a z0) ∧ K z0) := by
  intro n
  induction n with
  | zero =>
    intro x_1 y_0 hQ
    exact hQ.elim
  | succ n ih =>
    intro x_1 y_0 hQ
    refine x_iload_n 1 d_X10_solvesAll_16 rfl rfl ?_
    refine x_aload_n 0 d_X10_solvesAll_17 rfl rfl ?_
    refine x_getf 0 gf_X10_7 gM_0 rfl d_X10_solvesAll_18 ?_
    refine x_sipush (v := (291 : Int32)) d_X10_solvesAll_21 (by decide) ?_
    have hN := hQ.1
    have hQ := hQ.2
    refine x_iald gM_1 hN d_X10_solvesAll_24 ?_
    refine x_icmp_ge (tgt := 48) d_X10_solvesAll_25 (by decide) (fun c_25_4 => ?_) (fun c_25_4 => ?_)
    · have hQ := hQ.1 c_25_4
      exact x_vret (retV d_X10_solvesAll_48 rfl) ⟨_, rfl, rfl, hQ⟩
    · have hQ := hQ.2 c_25_4
      refine x_aload_n 0 d_X10_solvesAll_28 rfl rfl ?_
      refine x_aload_n 0 d_X10_solvesAll_29 rfl rfl ?_
      refine x_getf 0 gf_X10_7 gM_0 rfl d_X10_solvesAll_30 ?_
      refine x_sipush (v := (292 : Int32)) d_X10_solvesAll_33 (by decide) ?_
      refine x_iload_n 1 d_X10_solvesAll_36 rfl rfl ?_
      refine x_iadd d_X10_solvesAll_37 ?_
      have hN := hQ.1
      have hQ := hQ.2
      refine x_iald gM_1 hN d_X10_solvesAll_38 ?_
      refine x_invV (rest := []) (d' := d - 1) (mc' := 0) (ms' := 0) [.int (y_0.1 1 ((292 : Int32) + x_1).toNatClampNeg)] k_X10_goesTo lk_X10_268 gM_0 rfl rfl rfl (Nat.le_of_ble_eq_true rfl) (by omega) (Nat.le_refl _) (Nat.le_refl _) d_X10_solvesAll_39 ((sp_X10_goesTo (d := d - 1) (by omega) hQ).mono (fun r w2 hr => ?_))
      obtain ⟨s5, rfl, rfl, hQ⟩ := hr
      obtain ⟨x6, e_x6⟩ : ∃ z : Int32, z = x_1 + (1 : Int32) := ⟨_, rfl⟩
      have hQ := hQ x6 e_x6
      refine x_iinc (v := x6) (lv2 := [(1, .int x6), (0, .ref a)]) 1 d_X10_solvesAll_42 rfl (by rw [e_x6]; rfl) (by decide) rfl ?_
      refine x_goto (tgt := 16) d_X10_solvesAll_45 (by decide) ?_
      refine x_sub [1, 0] (lv2 := [(0, .ref a), (1, .int x6)]) rfl ?_
      exact ih x6 s5 hQ
def wp_X10_solvesAll (s : RT) (K : RT → Prop) : Prop := wp_X10_findsBreaks s (fun (s1 : RT) => ∀ s2 : RT, s2 = rS s1 17 (0 : Int32) → ∀ s3 : RT, s3 = rS s2 18 (0 : Int32) → ∃ m : Nat, lp_X10_solvesAll_16  K m (0 : Int32) s3)
set_option maxHeartbeats 4000000 in
theorem sp_X10_solvesAll {G : GX} {l : Launch} {d : Nat} {w : HW} {a : Nat} {s : RT} {K : RT → Prop} (hd : 8 ≤ d) (hQ : wp_X10_solvesAll s K) : Sp G l m_X10_solvesAll d 0 0 [.ref a] (put w a 22 (shM a s)) (fun r w2 => ∃ (z0 : RT), r = none ∧ w2 = put w a 22 (shM a z0) ∧ K z0) := by
  refine Sp.ofX k_X10_solvesAll.1.1 (Nat.le_of_ble_eq_true rfl) ?_
  refine X.lv (lv2 := [(0, .ref a)]) rfl ?_
  refine x_aload_n 0 d_X10_solvesAll_0 rfl rfl ?_
  refine x_invV (rest := []) (d' := d - 1) (mc' := 0) (ms' := 0) [] k_X10_findsBreaks lk_X10_265 gM_0 rfl rfl rfl (Nat.le_of_ble_eq_true rfl) (by omega) (Nat.le_refl _) (Nat.le_refl _) d_X10_solvesAll_1 ((sp_X10_findsBreaks (d := d - 1) (by omega) hQ).mono (fun r w2 hr => ?_))
  obtain ⟨s1, rfl, rfl, hQ⟩ := hr
  refine x_aload_n 0 d_X10_solvesAll_4 rfl rfl ?_
  refine x_iconst (v := (0 : Int32)) d_X10_solvesAll_5 (by decide) ?_
  refine x_putf 17 (.int) pf_X10_178 gM_0 rfl rfl (Nat.le_of_ble_eq_true rfl) d_X10_solvesAll_6 ?_
  obtain ⟨s2, e_s2⟩ : ∃ z : RT, z = rS s1 17 (0 : Int32) := ⟨_, rfl⟩
  have hQ := hQ s2 e_s2
  refine X.world (w2 := put w a 22 (shM a s2)) (by rw [e_s2]; exact sM_0_17) ?_
  refine x_aload_n 0 d_X10_solvesAll_9 rfl rfl ?_
  refine x_iconst (v := (0 : Int32)) d_X10_solvesAll_10 (by decide) ?_
  refine x_putf 18 (.int) pf_X10_91 gM_0 rfl rfl (Nat.le_of_ble_eq_true rfl) d_X10_solvesAll_11 ?_
  obtain ⟨s3, e_s3⟩ : ∃ z : RT, z = rS s2 18 (0 : Int32) := ⟨_, rfl⟩
  have hQ := hQ s3 e_s3
  refine X.world (w2 := put w a 22 (shM a s3)) (by rw [e_s3]; exact sM_0_18) ?_
  refine x_iconst (v := (0 : Int32)) d_X10_solvesAll_14 (by decide) ?_
  refine x_istore_n (lv2 := [(1, .int (0 : Int32)), (0, .ref a)]) d_X10_solvesAll_15 rfl (by decide) rfl ?_
  refine x_sub [1, 0] (lv2 := [(0, .ref a), (1, .int (0 : Int32))]) rfl ?_
  obtain ⟨m, hQ⟩ := hQ
  exact jt_X10_solvesAll_16 hd m (0 : Int32) s3 hQ
