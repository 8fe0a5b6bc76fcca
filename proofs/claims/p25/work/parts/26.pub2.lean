def wp_X9_right (t : RT) (c : RT) (r : RT) (p : RT) (ct : Int32) (kp : Nat → Option Nat) (kr : Nat → RT) (sl : Nat → Option Nat) (sr : Nat → RT) (a0 : Int32) (K : Int32 → RT → RT → Int32 → (Nat → Option Nat) → (Nat → RT) → Prop) : Prop := wp_X9_isVariable a0 (fun (r1 : Int32) => ((¬ r1 = (0 : Int32) → wp_X8_read t (fun (r3 : Int32) (s4 : RT) => ((r3 = (-1 : Int32) → wp_X2_record ct kp kr c (fun (ct7 : Int32) (kp8 : Nat → Option Nat) (kr9 : Nat → RT) => wp_X5_take s4 c a0 (fun (s11 : RT) => wp_X6_restart s11 (fun (s13 : RT) => wp_X8_empty s4 (fun (s15 : RT) => wp_X9_pick 3 (s13.1 4) a0 (fun (r17 : Int32) => wp_X9_delaysIn r17 (fun (r18 : Int32) => K r18 s15 s13 ct7 kp8 kr9))))))) ∧ (¬ r3 = (-1 : Int32) → K (-2000000002 : Int32) s4 c ct kp kr)))) ∧ (r1 = (0 : Int32) → K (-2000000001 : Int32) t c ct kp kr)))
set_option maxHeartbeats 4000000 in
theorem sp_X9_right {G : GX} {l : Launch} {d x : Nat} {w : HW} {t : RT} {c : RT} {r : RT} {p : RT} {ct : Int32} {kp : Nat → Option Nat} {kr : Nat → RT} {sl : Nat → Option Nat} {sr : Nat → RT} {a0 : Int32} {K : Int32 → RT → RT → Int32 → (Nat → Option Nat) → (Nat → RT) → Prop} (hd : 69 ≤ d) (hX : XW w x t c r p ct kp kr sl sr) (hQ : wp_X9_right t c r p ct kp kr sl sr a0 K) : Sp G l m_X9_right d 19 8122 [.ref x, .int a0] w (fun r9 w2 => ∃ (r1 : Int32), ∃ (z_t : RT), ∃ (z_c : RT), ∃ (z_ct : Int32), ∃ (z_kp : Nat → Option Nat), ∃ (z_kr : Nat → RT), r9 = some (.int r1) ∧ XW w2 x z_t z_c r p z_ct z_kp z_kr sl sr ∧ Out x w w2 ∧ K r1 z_t z_c z_ct z_kp z_kr) := by
  refine Sp.ofX k_X9_right.1.1 (Nat.le_of_ble_eq_true rfl) ?_
  refine X.lv (lv2 := [(0, .ref x), (1, .int a0)]) rfl ?_
  have hF : Out x w w := Out.rf
  refine x_iload_n 1 d_X9_right_0 rfl rfl ?_
  refine x_invS (rest := []) (d' := d - 1) (mc' := 0) (ms' := 0) [.int a0] k_X9_isVariable lk_X9_63 rfl rfl (Nat.le_of_ble_eq_true rfl) (by omega) (Nat.le_of_ble_eq_true rfl) (Nat.le_of_ble_eq_true rfl) d_X9_right_1 ((sp_X9_isVariable (w := w) (d := d - 1) (by omega) hQ).mono (fun r w2 hr => ?_))
  obtain ⟨r1, rfl, rfl, hQ⟩ := hr
  refine x_if_ne (tgt := 10) d_X9_right_4 (by decide) (fun c_4_2 => ?_) (fun c_4_2 => ?_)
  · have hQ := hQ.1 c_4_2
    refine x_aload_n 0 d_X9_right_10 rfl rfl ?_
    refine x_getf 0 gf_X9_12 hX.1 rfl d_X9_right_11 ?_
    have hsp := sp_X8_read (G := G) (l := l) (w := w2) (a := (x + 1)) (s := t) (d := d - 1) (by omega) hQ
    rw [has_eq hX.hT] at hsp
    refine x_invV (rest := []) (d' := d - 1) (mc' := 0) (ms' := 0) [] k_X8_read lk_X9_58 (hX.hT 0 (by decide)) rfl rfl rfl (Nat.le_of_ble_eq_true rfl) (by omega) (Nat.le_of_ble_eq_true rfl) (Nat.le_of_ble_eq_true rfl) d_X9_right_14 (hsp.mono (fun r w2 hr => ?_))
    obtain ⟨r3, s4, rfl, rfl, hQ⟩ := hr
    have hF := (hF.put (a := (x + 1)) (n := 3) (g := shT (x + 1) s4) (by omega) (by omega))
    have hX := (hX.setT (z := s4))
    generalize put w2 (x + 1) 3 (shT (x + 1) s4) = w5 at hX hF ⊢
    refine x_iconst (v := (-1 : Int32)) d_X9_right_17 (by decide) ?_
    refine x_icmp_eq (tgt := 24) d_X9_right_18 (by decide) (fun c_18_6 => ?_) (fun c_18_6 => ?_)
    · have hQ := hQ.1 c_18_6
      refine x_aload_n 0 d_X9_right_24 rfl rfl ?_
      refine x_getf 2 gf_X9_26 hX.1 rfl d_X9_right_25 ?_
      refine x_aload_n 0 d_X9_right_28 rfl rfl ?_
      refine x_getf 1 gf_X9_19 hX.1 rfl d_X9_right_29 ?_
      refine x_invV (rest := []) (d' := d - 1) (mc' := 19) (ms' := 8122) [.ref (x + 4)] k_X2_record lk_X9_67 hX.hK0 rfl rfl rfl (Nat.le_of_ble_eq_true rfl) (by omega) (Nat.le_of_ble_eq_true rfl) (Nat.le_of_ble_eq_true rfl) d_X9_right_32 ((sph_X2_record (d := d - 1) (by omega) hX hQ).mono (fun r w2 hr => ?_))
      obtain ⟨ct7, kp8, kr9, rfl, hX, hF2, hQ⟩ := hr
      have hF := hF.trans hF2
      refine x_aload_n 0 d_X9_right_35 rfl rfl ?_
      refine x_getf 1 gf_X9_19 hX.1 rfl d_X9_right_36 ?_
      refine x_getfN 0 gf_X9_71 (hX.hC 0 (by decide)) rfl d_X9_right_39 ?_
      refine x_iload_n 1 d_X9_right_42 rfl rfl ?_
      refine x_aload_n 0 d_X9_right_43 rfl rfl ?_
      refine x_getf 0 gf_X9_12 hX.1 rfl d_X9_right_44 ?_
      have hsp := sp_X5_take (G := G) (l := l) (w := w2) (b := (x + 1)) (t := s4) (a := (x + 4)) (s := c) (d := d - 1) (by omega) (by omega) hQ
      rw [has_eq hX.hT, has_eq hX.hC] at hsp
      refine x_invV (rest := []) (d' := d - 1) (mc' := 0) (ms' := 0) [.int a0, .ref (x + 1)] k_X5_take lk_X9_75 (hX.hC 1 (by decide)) rfl rfl rfl (Nat.le_of_ble_eq_true rfl) (by omega) (Nat.le_of_ble_eq_true rfl) (Nat.le_of_ble_eq_true rfl) d_X9_right_47 (hsp.mono (fun r w2 hr => ?_))
      obtain ⟨s11, rfl, rfl, hQ⟩ := hr
      have hF := (hF.put (a := (x + 4)) (n := 19) (g := shS (x + 4) s11) (by omega) (by omega))
      have hX := (hX.setC (z := s11))
      generalize put w2 (x + 4) 19 (shS (x + 4) s11) = w12 at hX hF ⊢
      refine x_aload_n 0 d_X9_right_50 rfl rfl ?_
      refine x_getf 1 gf_X9_19 hX.1 rfl d_X9_right_51 ?_
      have hsp := sp_X6_restart (G := G) (l := l) (w := w12) (a := (x + 4)) (s := s11) (d := d - 1) (by omega) hQ
      rw [has_eq hX.hC] at hsp
      refine x_invV (rest := []) (d' := d - 1) (mc' := 0) (ms' := 0) [] k_X6_restart lk_X9_81 (hX.hC 0 (by decide)) rfl rfl rfl (Nat.le_of_ble_eq_true rfl) (by omega) (Nat.le_of_ble_eq_true rfl) (Nat.le_of_ble_eq_true rfl) d_X9_right_54 (hsp.mono (fun r w2 hr => ?_))
      obtain ⟨s13, rfl, rfl, hQ⟩ := hr
      have hF := (hF.put (a := (x + 4)) (n := 19) (g := shS (x + 4) s13) (by omega) (by omega))
      have hX := (hX.setC (z := s13))
      generalize put w12 (x + 4) 19 (shS (x + 4) s13) = w14 at hX hF ⊢
      refine x_aload_n 0 d_X9_right_57 rfl rfl ?_
      refine x_getf 0 gf_X9_12 hX.1 rfl d_X9_right_58 ?_
      have hsp := sp_X8_empty (G := G) (l := l) (w := w14) (a := (x + 1)) (s := s4) (d := d - 1) (by omega) hQ
      rw [has_eq hX.hT] at hsp
      refine x_invV (rest := []) (d' := d - 1) (mc' := 0) (ms' := 0) [] k_X8_empty lk_X9_55 (hX.hT 0 (by decide)) rfl rfl rfl (Nat.le_of_ble_eq_true rfl) (by omega) (Nat.le_of_ble_eq_true rfl) (Nat.le_of_ble_eq_true rfl) d_X9_right_61 (hsp.mono (fun r w2 hr => ?_))
      obtain ⟨s15, rfl, rfl, hQ⟩ := hr
      have hF := (hF.put (a := (x + 1)) (n := 3) (g := shT (x + 1) s15) (by omega) (by omega))
      have hX := (hX.setT (z := s15))
      generalize put w14 (x + 1) 3 (shT (x + 1) s15) = w16 at hX hF ⊢
      refine x_aload_n 0 d_X9_right_64 rfl rfl ?_
      refine x_getf 1 gf_X9_19 hX.1 rfl d_X9_right_65 ?_
      refine x_getfN 0 gf_X9_71 (hX.hC 0 (by decide)) rfl d_X9_right_68 ?_
      refine x_getfN 2 gf_X9_84 (hX.hC 1 (by decide)) rfl d_X9_right_71 ?_
      refine x_iload_n 1 d_X9_right_74 rfl rfl ?_
      refine x_invS (rest := []) (d' := d - 1) (mc' := 0) (ms' := 0) [.ref ((x + 4) + 4), .int a0] k_X9_pick lk_X9_88 rfl rfl (Nat.le_of_ble_eq_true rfl) (by omega) (Nat.le_of_ble_eq_true rfl) (Nat.le_of_ble_eq_true rfl) d_X9_right_75 ((sp_X9_pick (w := w16) (d := d - 1) (by omega) (hX.hC 4 (by decide)) hQ).mono (fun r w2 hr => ?_))
      obtain ⟨r17, rfl, rfl, hQ⟩ := hr
      refine x_invS (rest := []) (d' := d - 1) (mc' := 0) (ms' := 0) [.int r17] k_X9_delaysIn lk_X9_92 rfl rfl (Nat.le_of_ble_eq_true rfl) (by omega) (Nat.le_of_ble_eq_true rfl) (Nat.le_of_ble_eq_true rfl) d_X9_right_78 ((sp_X9_delaysIn (w := w2) (d := d - 1) (by omega) hQ).mono (fun r w2 hr => ?_))
      obtain ⟨r18, rfl, rfl, hQ⟩ := hr
      exact x_iret (retI d_X9_right_81 rfl) ⟨_, _, _, _, _, _, rfl, hX, hF, hQ⟩
    · have hQ := hQ.2 c_18_6
      refine x_ldc (v := (-2000000002 : Int32)) kc_X9_66 d_X9_right_21 ?_
      exact x_iret (retI d_X9_right_23 rfl) ⟨_, _, _, _, _, _, rfl, hX, hF, hQ⟩
  · have hQ := hQ.2 c_4_2
    refine x_ldc (v := (-2000000001 : Int32)) kc_X9_45 d_X9_right_7 ?_
    exact x_iret (retI d_X9_right_9 rfl) ⟨_, _, _, _, _, _, rfl, hX, hF, hQ⟩
def wp_X9_delay (t : RT) (c : RT) (r : RT) (p : RT) (ct : Int32) (kp : Nat → Option Nat) (kr : Nat → RT) (sl : Nat → Option Nat) (sr : Nat → RT) (a0 : Int32) (a1 : Int32) (a2 : Int32) (K : Int32 → RT → Int32 → (Nat → Option Nat) → (Nat → RT) → Prop) : Prop := wp_X9_isDelay a0 (fun (r1 : Int32) => ((r1 = (0 : Int32) → K (-2000000001 : Int32) c ct kp kr) ∧ (¬ r1 = (0 : Int32) → wp_X9_isWithin a1 (0 : Int32) (5000 : Int32) (fun (r3 : Int32) => ((r3 = (0 : Int32) → K (-2000000001 : Int32) c ct kp kr) ∧ (¬ r3 = (0 : Int32) → wp_X9_isWithin a2 (-900 : Int32) (900 : Int32) (fun (r5 : Int32) => ((¬ r5 = (0 : Int32) → wp_X2_record ct kp kr c (fun (ct7 : Int32) (kp8 : Nat → Option Nat) (kr9 : Nat → RT) => wp_X9_pick 3 (c.1 6) a0 (fun (r11 : Int32) => wp_X9_put 3 (c.1 6) a0 a1 (fun (f12 : Nat → Int32) => ∀ s13 : RT, s13 = rI c 6 f12 → wp_X9_put 3 (s13.1 7) a0 a2 (fun (f15 : Nat → Int32) => ∀ s16 : RT, s16 = rI s13 7 f15 → wp_X6_restart s16 (fun (s18 : RT) => K r11 s18 ct7 kp8 kr9)))))) ∧ (r5 = (0 : Int32) → K (-2000000001 : Int32) c ct kp kr)))))))))
set_option maxHeartbeats 4000000 in
theorem sp_X9_delay {G : GX} {l : Launch} {d x : Nat} {w : HW} {t : RT} {c : RT} {r : RT} {p : RT} {ct : Int32} {kp : Nat → Option Nat} {kr : Nat → RT} {sl : Nat → Option Nat} {sr : Nat → RT} {a0 : Int32} {a1 : Int32} {a2 : Int32} {K : Int32 → RT → Int32 → (Nat → Option Nat) → (Nat → RT) → Prop} (hd : 6 ≤ d) (hX : XW w x t c r p ct kp kr sl sr) (hQ : wp_X9_delay t c r p ct kp kr sl sr a0 a1 a2 K) : Sp G l m_X9_delay d 19 8122 [.ref x, .int a0, .int a1, .int a2] w (fun r9 w2 => ∃ (r1 : Int32), ∃ (z_c : RT), ∃ (z_ct : Int32), ∃ (z_kp : Nat → Option Nat), ∃ (z_kr : Nat → RT), r9 = some (.int r1) ∧ XW w2 x t z_c r p z_ct z_kp z_kr sl sr ∧ Out x w w2 ∧ K r1 z_c z_ct z_kp z_kr) := by
  refine Sp.ofX k_X9_delay.1.1 (Nat.le_of_ble_eq_true rfl) ?_
  refine X.lv (lv2 := [(0, .ref x), (1, .int a0), (2, .int a1), (3, .int a2)]) rfl ?_
  have hF : Out x w w := Out.rf
  refine x_iload_n 1 d_X9_delay_0 rfl rfl ?_
  refine x_invS (rest := []) (d' := d - 1) (mc' := 0) (ms' := 0) [.int a0] k_X9_isDelay lk_X9_96 rfl rfl (Nat.le_of_ble_eq_true rfl) (by omega) (Nat.le_of_ble_eq_true rfl) (Nat.le_of_ble_eq_true rfl) d_X9_delay_1 ((sp_X9_isDelay (w := w) (d := d - 1) (by omega) hQ).mono (fun r w2 hr => ?_))
  obtain ⟨r1, rfl, rfl, hQ⟩ := hr
  refine x_if_eq (tgt := 31) d_X9_delay_4 (by decide) (fun c_4_2 => ?_) (fun c_4_2 => ?_)
  · have hQ := hQ.1 c_4_2
    refine x_ldc (v := (-2000000001 : Int32)) kc_X9_45 d_X9_delay_31 ?_
    exact x_iret (retI d_X9_delay_33 rfl) ⟨_, _, _, _, _, rfl, hX, hF, hQ⟩
  · have hQ := hQ.2 c_4_2
    refine x_iload_n 2 d_X9_delay_7 rfl rfl ?_
    refine x_iconst (v := (0 : Int32)) d_X9_delay_8 (by decide) ?_
    refine x_sipush (v := (5000 : Int32)) d_X9_delay_9 (by decide) ?_
    refine x_invS (rest := []) (d' := d - 1) (mc' := 0) (ms' := 0) [.int a1, .int (0 : Int32), .int (5000 : Int32)] k_X9_isWithin lk_X9_41 rfl rfl (Nat.le_of_ble_eq_true rfl) (by omega) (Nat.le_of_ble_eq_true rfl) (Nat.le_of_ble_eq_true rfl) d_X9_delay_12 ((sp_X9_isWithin (w := w2) (d := d - 1) (by omega) hQ).mono (fun r w2 hr => ?_))
    obtain ⟨r3, rfl, rfl, hQ⟩ := hr
    refine x_if_eq (tgt := 31) d_X9_delay_15 (by decide) (fun c_15_4 => ?_) (fun c_15_4 => ?_)
    · have hQ := hQ.1 c_15_4
      refine x_ldc (v := (-2000000001 : Int32)) kc_X9_45 d_X9_delay_31 ?_
      exact x_iret (retI d_X9_delay_33 rfl) ⟨_, _, _, _, _, rfl, hX, hF, hQ⟩
    · have hQ := hQ.2 c_15_4
      refine x_iload_n 3 d_X9_delay_18 rfl rfl ?_
      refine x_sipush (v := (-900 : Int32)) d_X9_delay_19 (by decide) ?_
      refine x_sipush (v := (900 : Int32)) d_X9_delay_22 (by decide) ?_
      refine x_invS (rest := []) (d' := d - 1) (mc' := 0) (ms' := 0) [.int a2, .int (-900 : Int32), .int (900 : Int32)] k_X9_isWithin lk_X9_41 rfl rfl (Nat.le_of_ble_eq_true rfl) (by omega) (Nat.le_of_ble_eq_true rfl) (Nat.le_of_ble_eq_true rfl) d_X9_delay_25 ((sp_X9_isWithin (w := w2) (d := d - 1) (by omega) hQ).mono (fun r w2 hr => ?_))
      obtain ⟨r5, rfl, rfl, hQ⟩ := hr
      refine x_if_ne (tgt := 34) d_X9_delay_28 (by decide) (fun c_28_6 => ?_) (fun c_28_6 => ?_)
      · have hQ := hQ.1 c_28_6
        refine x_aload_n 0 d_X9_delay_34 rfl rfl ?_
        refine x_getf 2 gf_X9_26 hX.1 rfl d_X9_delay_35 ?_
        refine x_aload_n 0 d_X9_delay_38 rfl rfl ?_
        refine x_getf 1 gf_X9_19 hX.1 rfl d_X9_delay_39 ?_
        refine x_invV (rest := []) (d' := d - 1) (mc' := 19) (ms' := 8122) [.ref (x + 4)] k_X2_record lk_X9_67 hX.hK0 rfl rfl rfl (Nat.le_of_ble_eq_true rfl) (by omega) (Nat.le_of_ble_eq_true rfl) (Nat.le_of_ble_eq_true rfl) d_X9_delay_42 ((sph_X2_record (d := d - 1) (by omega) hX hQ).mono (fun r w2 hr => ?_))
        obtain ⟨ct7, kp8, kr9, rfl, hX, hF2, hQ⟩ := hr
        have hF := hF.trans hF2
        refine x_aload_n 0 d_X9_delay_45 rfl rfl ?_
        refine x_getf 1 gf_X9_19 hX.1 rfl d_X9_delay_46 ?_
        refine x_getfN 1 gf_X9_99 (hX.hC 0 (by decide)) rfl d_X9_delay_49 ?_
        refine x_getfN 0 gf_X9_103 (hX.hC 5 (by decide)) rfl d_X9_delay_52 ?_
        refine x_iload_n 1 d_X9_delay_55 rfl rfl ?_
        refine x_invS (rest := []) (d' := d - 1) (mc' := 0) (ms' := 0) [.ref ((x + 4) + 6), .int a0] k_X9_pick lk_X9_88 rfl rfl (Nat.le_of_ble_eq_true rfl) (by omega) (Nat.le_of_ble_eq_true rfl) (Nat.le_of_ble_eq_true rfl) d_X9_delay_56 ((sp_X9_pick (w := w2) (d := d - 1) (by omega) (hX.hC 6 (by decide)) hQ).mono (fun r w2 hr => ?_))
        obtain ⟨r11, rfl, rfl, hQ⟩ := hr
        refine x_istore (lv2 := [(4, .int r11), (0, .ref x), (1, .int a0), (2, .int a1), (3, .int a2)]) d_X9_delay_59 (by decide) rfl ?_
        refine x_aload_n 1 d_X9_delay_61 rfl rfl ?_
        refine x_getf 1 gf_X9_19 hX.1 rfl d_X9_delay_62 ?_
        refine x_getfN 1 gf_X9_99 (hX.hC 0 (by decide)) rfl d_X9_delay_65 ?_
        refine x_getfN 0 gf_X9_103 (hX.hC 5 (by decide)) rfl d_X9_delay_68 ?_
        refine x_iload_n 2 d_X9_delay_71 rfl rfl ?_
        refine x_iload_n 3 d_X9_delay_72 rfl rfl ?_
        refine x_invS (rest := []) (d' := d - 1) (mc' := 0) (ms' := 0) [.ref ((x + 4) + 6), .int a0, .int a1] k_X9_put lk_X9_108 rfl rfl (Nat.le_of_ble_eq_true rfl) (by omega) (Nat.le_of_ble_eq_true rfl) (Nat.le_of_ble_eq_true rfl) d_X9_delay_73 ((spa_X9_put (w := w2) (d := d - 1) (by omega) (hX.hC 6 (by decide)) hQ).mono (fun r w2 hr => ?_))
        obtain ⟨f12, rfl, rfl, hQ⟩ := hr
        obtain ⟨s13, e_s13⟩ : ∃ z : RT, z = rI c 6 f12 := ⟨_, rfl⟩
        have hQ := hQ s13 e_s13
        refine X.world (w2 := put w2 (x + 4) 19 (shS (x + 4) s13)) (by have h9 := sS_6 (w := w2) (a := (x + 4)) (s := c) (f := f12); rw [has_eq hX.hC] at h9; rw [e_s13]; exact h9) ?_
        have hF := hF.put (a := (x + 4)) (n := 19) (g := shS (x + 4) s13) (by omega) (by omega)
        have hX := hX.setC (z := s13)
        generalize put w2 (x + 4) 19 (shS (x + 4) s13) = w14 at hX hF ⊢
        refine x_aload_n 1 d_X9_delay_76 rfl rfl ?_
        refine x_getf 1 gf_X9_19 hX.1 rfl d_X9_delay_77 ?_
        refine x_getfN 1 gf_X9_99 (hX.hC 0 (by decide)) rfl d_X9_delay_80 ?_
        refine x_getfN 1 gf_X9_112 (hX.hC 5 (by decide)) rfl d_X9_delay_83 ?_
        refine x_iload_n 2 d_X9_delay_86 rfl rfl ?_
        refine x_iload_n 4 d_X9_delay_87 rfl rfl ?_
        refine x_invS (rest := []) (d' := d - 1) (mc' := 0) (ms' := 0) [.ref ((x + 4) + 7), .int a0, .int a2] k_X9_put lk_X9_108 rfl rfl (Nat.le_of_ble_eq_true rfl) (by omega) (Nat.le_of_ble_eq_true rfl) (Nat.le_of_ble_eq_true rfl) d_X9_delay_88 ((spa_X9_put (w := w14) (d := d - 1) (by omega) (hX.hC 7 (by decide)) hQ).mono (fun r w2 hr => ?_))
        obtain ⟨f15, rfl, rfl, hQ⟩ := hr
        obtain ⟨s16, e_s16⟩ : ∃ z : RT, z = rI s13 7 f15 := ⟨_, rfl⟩
        have hQ := hQ s16 e_s16
        refine X.world (w2 := put w14 (x + 4) 19 (shS (x + 4) s16)) (by have h9 := sS_7 (w := w14) (a := (x + 4)) (s := s13) (f := f15); rw [has_eq hX.hC] at h9; rw [e_s16]; exact h9) ?_
        have hF := hF.put (a := (x + 4)) (n := 19) (g := shS (x + 4) s16) (by omega) (by omega)
        have hX := hX.setC (z := s16)
        generalize put w14 (x + 4) 19 (shS (x + 4) s16) = w17 at hX hF ⊢
        refine x_aload_n 1 d_X9_delay_91 rfl rfl ?_
        refine x_getf 1 gf_X9_19 hX.1 rfl d_X9_delay_92 ?_
        have hsp := sp_X6_restart (G := G) (l := l) (w := w17) (a := (x + 4)) (s := s16) (d := d - 1) (by omega) hQ
        rw [has_eq hX.hC] at hsp
        refine x_invV (rest := []) (d' := d - 1) (mc' := 0) (ms' := 0) [] k_X6_restart lk_X9_81 (hX.hC 0 (by decide)) rfl rfl rfl (Nat.le_of_ble_eq_true rfl) (by omega) (Nat.le_of_ble_eq_true rfl) (Nat.le_of_ble_eq_true rfl) d_X9_delay_95 (hsp.mono (fun r w2 hr => ?_))
        obtain ⟨s18, rfl, rfl, hQ⟩ := hr
        have hF := (hF.put (a := (x + 4)) (n := 19) (g := shS (x + 4) s18) (by omega) (by omega))
        have hX := (hX.setC (z := s18))
        generalize put w17 (x + 4) 19 (shS (x + 4) s18) = w19 at hX hF ⊢
        refine x_iload 0 d_X9_delay_98 rfl ?_
        exact x_iret (retI d_X9_delay_100 rfl) ⟨_, _, _, _, _, rfl, hX, hF, hQ⟩
      · have hQ := hQ.2 c_28_6
        refine x_ldc (v := (-2000000001 : Int32)) kc_X9_45 d_X9_delay_31 ?_
        exact x_iret (retI d_X9_delay_33 rfl) ⟨_, _, _, _, _, rfl, hX, hF, hQ⟩
def wp_X9_point (t : RT) (c : RT) (r : RT) (p : RT) (ct : Int32) (kp : Nat → Option Nat) (kr : Nat → RT) (sl : Nat → Option Nat) (sr : Nat → RT) (a0 : Int32) (a1 : Int32) (a2 : Int32) (K : Int32 → RT → Int32 → (Nat → Option Nat) → (Nat → RT) → Prop) : Prop := wp_X9_isVariable a0 (fun (r1 : Int32) => ((r1 = (0 : Int32) → K (-2000000001 : Int32) c ct kp kr) ∧ (¬ r1 = (0 : Int32) → wp_X9_isWithin a1 (-10000 : Int32) (0 : Int32) (fun (r3 : Int32) => ((r3 = (0 : Int32) → K (-2000000001 : Int32) c ct kp kr) ∧ (¬ r3 = (0 : Int32) → wp_X9_isWithin a2 (-1000000 : Int32) (1000000 : Int32) (fun (r5 : Int32) => ((¬ r5 = (0 : Int32) → wp_X1_hasPointAt c a0 a1 (fun (r7 : Int32) => ((r7 = (0 : Int32) → wp_X9_pick 3 (c.1 9) a0 (fun (r9 : Int32) => ((r9 < (6 : Int32) → wp_X2_record ct kp kr c (fun (ct11 : Int32) (kp12 : Nat → Option Nat) (kr13 : Nat → RT) => wp_X1_add c a0 a1 a2 (fun (s15 : RT) => wp_X6_restart s15 (fun (s17 : RT) => wp_X9_pick 3 (s17.1 9) a0 (fun (r19 : Int32) => K r19 s17 ct11 kp12 kr13))))) ∧ (¬ r9 < (6 : Int32) → K (-2000000003 : Int32) c ct kp kr)))) ∧ (¬ r7 = (0 : Int32) → K (-2000000002 : Int32) c ct kp kr)))) ∧ (r5 = (0 : Int32) → K (-2000000001 : Int32) c ct kp kr)))))))))
set_option maxHeartbeats 4000000 in
theorem sp_X9_point {G : GX} {l : Launch} {d x : Nat} {w : HW} {t : RT} {c : RT} {r : RT} {p : RT} {ct : Int32} {kp : Nat → Option Nat} {kr : Nat → RT} {sl : Nat → Option Nat} {sr : Nat → RT} {a0 : Int32} {a1 : Int32} {a2 : Int32} {K : Int32 → RT → Int32 → (Nat → Option Nat) → (Nat → RT) → Prop} (hd : 6 ≤ d) (hX : XW w x t c r p ct kp kr sl sr) (hQ : wp_X9_point t c r p ct kp kr sl sr a0 a1 a2 K) : Sp G l m_X9_point d 19 8122 [.ref x, .int a0, .int a1, .int a2] w (fun r9 w2 => ∃ (r1 : Int32), ∃ (z_c : RT), ∃ (z_ct : Int32), ∃ (z_kp : Nat → Option Nat), ∃ (z_kr : Nat → RT), r9 = some (.int r1) ∧ XW w2 x t z_c r p z_ct z_kp z_kr sl sr ∧ Out x w w2 ∧ K r1 z_c z_ct z_kp z_kr) := by
  refine Sp.ofX k_X9_point.1.1 (Nat.le_of_ble_eq_true rfl) ?_
  refine X.lv (lv2 := [(0, .ref x), (1, .int a0), (2, .int a1), (3, .int a2)]) rfl ?_
  have hF : Out x w w := Out.rf
  refine x_iload_n 1 d_X9_point_0 rfl rfl ?_
  refine x_invS (rest := []) (d' := d - 1) (mc' := 0) (ms' := 0) [.int a0] k_X9_isVariable lk_X9_63 rfl rfl (Nat.le_of_ble_eq_true rfl) (by omega) (Nat.le_of_ble_eq_true rfl) (Nat.le_of_ble_eq_true rfl) d_X9_point_1 ((sp_X9_isVariable (w := w) (d := d - 1) (by omega) hQ).mono (fun r w2 hr => ?_))
  obtain ⟨r1, rfl, rfl, hQ⟩ := hr
  refine x_if_eq (tgt := 29) d_X9_point_4 (by decide) (fun c_4_2 => ?_) (fun c_4_2 => ?_)
  · have hQ := hQ.1 c_4_2
    refine x_ldc (v := (-2000000001 : Int32)) kc_X9_45 d_X9_point_29 ?_
    exact x_iret (retI d_X9_point_31 rfl) ⟨_, _, _, _, _, rfl, hX, hF, hQ⟩
  · have hQ := hQ.2 c_4_2
    refine x_iload_n 2 d_X9_point_7 rfl rfl ?_
    refine x_sipush (v := (-10000 : Int32)) d_X9_point_8 (by decide) ?_
    refine x_iconst (v := (0 : Int32)) d_X9_point_11 (by decide) ?_
    refine x_invS (rest := []) (d' := d - 1) (mc' := 0) (ms' := 0) [.int a1, .int (-10000 : Int32), .int (0 : Int32)] k_X9_isWithin lk_X9_41 rfl rfl (Nat.le_of_ble_eq_true rfl) (by omega) (Nat.le_of_ble_eq_true rfl) (Nat.le_of_ble_eq_true rfl) d_X9_point_12 ((sp_X9_isWithin (w := w2) (d := d - 1) (by omega) hQ).mono (fun r w2 hr => ?_))
    obtain ⟨r3, rfl, rfl, hQ⟩ := hr
    refine x_if_eq (tgt := 29) d_X9_point_15 (by decide) (fun c_15_4 => ?_) (fun c_15_4 => ?_)
    · have hQ := hQ.1 c_15_4
      refine x_ldc (v := (-2000000001 : Int32)) kc_X9_45 d_X9_point_29 ?_
      exact x_iret (retI d_X9_point_31 rfl) ⟨_, _, _, _, _, rfl, hX, hF, hQ⟩
    · have hQ := hQ.2 c_15_4
      refine x_iload_n 3 d_X9_point_18 rfl rfl ?_
      refine x_ldc (v := (-1000000 : Int32)) kc_X9_115 d_X9_point_19 ?_
      refine x_ldc (v := (1000000 : Int32)) kc_X9_116 d_X9_point_21 ?_
      refine x_invS (rest := []) (d' := d - 1) (mc' := 0) (ms' := 0) [.int a2, .int (-1000000 : Int32), .int (1000000 : Int32)] k_X9_isWithin lk_X9_41 rfl rfl (Nat.le_of_ble_eq_true rfl) (by omega) (Nat.le_of_ble_eq_true rfl) (Nat.le_of_ble_eq_true rfl) d_X9_point_23 ((sp_X9_isWithin (w := w2) (d := d - 1) (by omega) hQ).mono (fun r w2 hr => ?_))
      obtain ⟨r5, rfl, rfl, hQ⟩ := hr
      refine x_if_ne (tgt := 32) d_X9_point_26 (by decide) (fun c_26_6 => ?_) (fun c_26_6 => ?_)
      · have hQ := hQ.1 c_26_6
        refine x_aload_n 0 d_X9_point_32 rfl rfl ?_
        refine x_getf 1 gf_X9_19 hX.1 rfl d_X9_point_33 ?_
        refine x_getfN 2 gf_X9_117 (hX.hC 0 (by decide)) rfl d_X9_point_36 ?_
        refine x_iload_n 1 d_X9_point_39 rfl rfl ?_
        refine x_iload_n 2 d_X9_point_40 rfl rfl ?_
        have hsp := sp_X1_hasPointAt (G := G) (l := l) (w := w2) (a := (x + 4)) (s := c) (d := d - 1) (by omega) hQ
        rw [has_eq hX.hC] at hsp
        refine x_invV (rest := []) (d' := d - 1) (mc' := 0) (ms' := 0) [.int a0, .int a1] k_X1_hasPointAt lk_X9_121 (hX.hC 8 (by decide)) rfl rfl rfl (Nat.le_of_ble_eq_true rfl) (by omega) (Nat.le_of_ble_eq_true rfl) (Nat.le_of_ble_eq_true rfl) d_X9_point_41 (hsp.mono (fun r w2 hr => ?_))
        obtain ⟨r7, rfl, rfl, hQ⟩ := hr
        refine x_if_eq (tgt := 50) d_X9_point_44 (by decide) (fun c_44_8 => ?_) (fun c_44_8 => ?_)
        · have hQ := hQ.1 c_44_8
          refine x_aload_n 0 d_X9_point_50 rfl rfl ?_
          refine x_getf 1 gf_X9_19 hX.1 rfl d_X9_point_51 ?_
          refine x_getfN 2 gf_X9_117 (hX.hC 0 (by decide)) rfl d_X9_point_54 ?_
          refine x_getfN 0 gf_X9_127 (hX.hC 8 (by decide)) rfl d_X9_point_57 ?_
          refine x_iload_n 1 d_X9_point_60 rfl rfl ?_
          refine x_invS (rest := []) (d' := d - 1) (mc' := 0) (ms' := 0) [.ref ((x + 4) + 9), .int a0] k_X9_pick lk_X9_88 rfl rfl (Nat.le_of_ble_eq_true rfl) (by omega) (Nat.le_of_ble_eq_true rfl) (Nat.le_of_ble_eq_true rfl) d_X9_point_61 ((sp_X9_pick (w := w2) (d := d - 1) (by omega) (hX.hC 9 (by decide)) hQ).mono (fun r w2 hr => ?_))
          obtain ⟨r9, rfl, rfl, hQ⟩ := hr
          refine x_bipush (v := (6 : Int32)) d_X9_point_64 (by decide) ?_
          refine x_icmp_lt (tgt := 72) d_X9_point_66 (by decide) (fun c_66_10 => ?_) (fun c_66_10 => ?_)
          · have hQ := hQ.1 c_66_10
            refine x_aload_n 0 d_X9_point_72 rfl rfl ?_
            refine x_getf 2 gf_X9_26 hX.1 rfl d_X9_point_73 ?_
            refine x_aload_n 0 d_X9_point_76 rfl rfl ?_
            refine x_getf 1 gf_X9_19 hX.1 rfl d_X9_point_77 ?_
            refine x_invV (rest := []) (d' := d - 1) (mc' := 19) (ms' := 8122) [.ref (x + 4)] k_X2_record lk_X9_67 hX.hK0 rfl rfl rfl (Nat.le_of_ble_eq_true rfl) (by omega) (Nat.le_of_ble_eq_true rfl) (Nat.le_of_ble_eq_true rfl) d_X9_point_80 ((sph_X2_record (d := d - 1) (by omega) hX hQ).mono (fun r w2 hr => ?_))
            obtain ⟨ct11, kp12, kr13, rfl, hX, hF2, hQ⟩ := hr
            have hF := hF.trans hF2
            refine x_aload_n 0 d_X9_point_83 rfl rfl ?_
            refine x_getf 1 gf_X9_19 hX.1 rfl d_X9_point_84 ?_
            refine x_getfN 2 gf_X9_117 (hX.hC 0 (by decide)) rfl d_X9_point_87 ?_
            refine x_iload_n 1 d_X9_point_90 rfl rfl ?_
            refine x_iload_n 2 d_X9_point_91 rfl rfl ?_
            refine x_iload_n 3 d_X9_point_92 rfl rfl ?_
            have hsp := sp_X1_add (G := G) (l := l) (w := w2) (a := (x + 4)) (s := c) (d := d - 1) (by omega) hQ
            rw [has_eq hX.hC] at hsp
            refine x_invV (rest := []) (d' := d - 1) (mc' := 0) (ms' := 0) [.int a0, .int a1, .int a2] k_X1_add lk_X9_130 (hX.hC 8 (by decide)) rfl rfl rfl (Nat.le_of_ble_eq_true rfl) (by omega) (Nat.le_of_ble_eq_true rfl) (Nat.le_of_ble_eq_true rfl) d_X9_point_93 (hsp.mono (fun r w2 hr => ?_))
            obtain ⟨s15, rfl, rfl, hQ⟩ := hr
            have hF := (hF.put (a := (x + 4)) (n := 19) (g := shS (x + 4) s15) (by omega) (by omega))
            have hX := (hX.setC (z := s15))
            generalize put w2 (x + 4) 19 (shS (x + 4) s15) = w16 at hX hF ⊢
            refine x_aload_n 0 d_X9_point_96 rfl rfl ?_
            refine x_getf 1 gf_X9_19 hX.1 rfl d_X9_point_97 ?_
            have hsp := sp_X6_restart (G := G) (l := l) (w := w16) (a := (x + 4)) (s := s15) (d := d - 1) (by omega) hQ
            rw [has_eq hX.hC] at hsp
            refine x_invV (rest := []) (d' := d - 1) (mc' := 0) (ms' := 0) [] k_X6_restart lk_X9_81 (hX.hC 0 (by decide)) rfl rfl rfl (Nat.le_of_ble_eq_true rfl) (by omega) (Nat.le_of_ble_eq_true rfl) (Nat.le_of_ble_eq_true rfl) d_X9_point_100 (hsp.mono (fun r w2 hr => ?_))
            obtain ⟨s17, rfl, rfl, hQ⟩ := hr
            have hF := (hF.put (a := (x + 4)) (n := 19) (g := shS (x + 4) s17) (by omega) (by omega))
            have hX := (hX.setC (z := s17))
            generalize put w16 (x + 4) 19 (shS (x + 4) s17) = w18 at hX hF ⊢
            refine x_aload_n 0 d_X9_point_103 rfl rfl ?_
            refine x_getf 1 gf_X9_19 hX.1 rfl d_X9_point_104 ?_
            refine x_getfN 2 gf_X9_117 (hX.hC 0 (by decide)) rfl d_X9_point_107 ?_
            refine x_getfN 0 gf_X9_127 (hX.hC 8 (by decide)) rfl d_X9_point_110 ?_
            refine x_iload_n 1 d_X9_point_113 rfl rfl ?_
            refine x_invS (rest := []) (d' := d - 1) (mc' := 0) (ms' := 0) [.ref ((x + 4) + 9), .int a0] k_X9_pick lk_X9_88 rfl rfl (Nat.le_of_ble_eq_true rfl) (by omega) (Nat.le_of_ble_eq_true rfl) (Nat.le_of_ble_eq_true rfl) d_X9_point_114 ((sp_X9_pick (w := w18) (d := d - 1) (by omega) (hX.hC 9 (by decide)) hQ).mono (fun r w2 hr => ?_))
            obtain ⟨r19, rfl, rfl, hQ⟩ := hr
            exact x_iret (retI d_X9_point_117 rfl) ⟨_, _, _, _, _, rfl, hX, hF, hQ⟩
          · have hQ := hQ.2 c_66_10
            refine x_ldc (v := (-2000000003 : Int32)) kc_X9_54 d_X9_point_69 ?_
            exact x_iret (retI d_X9_point_71 rfl) ⟨_, _, _, _, _, rfl, hX, hF, hQ⟩
        · have hQ := hQ.2 c_44_8
          refine x_ldc (v := (-2000000002 : Int32)) kc_X9_66 d_X9_point_47 ?_
          exact x_iret (retI d_X9_point_49 rfl) ⟨_, _, _, _, _, rfl, hX, hF, hQ⟩
      · have hQ := hQ.2 c_26_6
        refine x_ldc (v := (-2000000001 : Int32)) kc_X9_45 d_X9_point_29 ?_
        exact x_iret (retI d_X9_point_31 rfl) ⟨_, _, _, _, _, rfl, hX, hF, hQ⟩
def wp_X9_clear (t : RT) (c : RT) (r : RT) (p : RT) (ct : Int32) (kp : Nat → Option Nat) (kr : Nat → RT) (sl : Nat → Option Nat) (sr : Nat → RT) (a0 : Int32) (K : Int32 → RT → Int32 → (Nat → Option Nat) → (Nat → RT) → Prop) : Prop := wp_X9_isVariable a0 (fun (r1 : Int32) => ((¬ r1 = (0 : Int32) → wp_X2_record ct kp kr c (fun (ct3 : Int32) (kp4 : Nat → Option Nat) (kr5 : Nat → RT) => wp_X9_pick 3 (c.1 9) a0 (fun (r7 : Int32) => wp_X9_put 3 (c.1 9) a0 (0 : Int32) (fun (f8 : Nat → Int32) => ∀ s9 : RT, s9 = rI c 9 f8 → wp_X6_restart s9 (fun (s11 : RT) => K r7 s11 ct3 kp4 kr5))))) ∧ (r1 = (0 : Int32) → K (-2000000001 : Int32) c ct kp kr)))
set_option maxHeartbeats 4000000 in
theorem sp_X9_clear {G : GX} {l : Launch} {d x : Nat} {w : HW} {t : RT} {c : RT} {r : RT} {p : RT} {ct : Int32} {kp : Nat → Option Nat} {kr : Nat → RT} {sl : Nat → Option Nat} {sr : Nat → RT} {a0 : Int32} {K : Int32 → RT → Int32 → (Nat → Option Nat) → (Nat → RT) → Prop} (hd : 6 ≤ d) (hX : XW w x t c r p ct kp kr sl sr) (hQ : wp_X9_clear t c r p ct kp kr sl sr a0 K) : Sp G l m_X9_clear d 19 8122 [.ref x, .int a0] w (fun r9 w2 => ∃ (r1 : Int32), ∃ (z_c : RT), ∃ (z_ct : Int32), ∃ (z_kp : Nat → Option Nat), ∃ (z_kr : Nat → RT), r9 = some (.int r1) ∧ XW w2 x t z_c r p z_ct z_kp z_kr sl sr ∧ Out x w w2 ∧ K r1 z_c z_ct z_kp z_kr) := by
  refine Sp.ofX k_X9_clear.1.1 (Nat.le_of_ble_eq_true rfl) ?_
  refine X.lv (lv2 := [(0, .ref x), (1, .int a0)]) rfl ?_
  have hF : Out x w w := Out.rf
  refine x_iload_n 1 d_X9_clear_0 rfl rfl ?_
  refine x_invS (rest := []) (d' := d - 1) (mc' := 0) (ms' := 0) [.int a0] k_X9_isVariable lk_X9_63 rfl rfl (Nat.le_of_ble_eq_true rfl) (by omega) (Nat.le_of_ble_eq_true rfl) (Nat.le_of_ble_eq_true rfl) d_X9_clear_1 ((sp_X9_isVariable (w := w) (d := d - 1) (by omega) hQ).mono (fun r w2 hr => ?_))
  obtain ⟨r1, rfl, rfl, hQ⟩ := hr
  refine x_if_ne (tgt := 10) d_X9_clear_4 (by decide) (fun c_4_2 => ?_) (fun c_4_2 => ?_)
  · have hQ := hQ.1 c_4_2
    refine x_aload_n 0 d_X9_clear_10 rfl rfl ?_
    refine x_getf 2 gf_X9_26 hX.1 rfl d_X9_clear_11 ?_
    refine x_aload_n 0 d_X9_clear_14 rfl rfl ?_
    refine x_getf 1 gf_X9_19 hX.1 rfl d_X9_clear_15 ?_
    refine x_invV (rest := []) (d' := d - 1) (mc' := 19) (ms' := 8122) [.ref (x + 4)] k_X2_record lk_X9_67 hX.hK0 rfl rfl rfl (Nat.le_of_ble_eq_true rfl) (by omega) (Nat.le_of_ble_eq_true rfl) (Nat.le_of_ble_eq_true rfl) d_X9_clear_18 ((sph_X2_record (d := d - 1) (by omega) hX hQ).mono (fun r w2 hr => ?_))
    obtain ⟨ct3, kp4, kr5, rfl, hX, hF2, hQ⟩ := hr
    have hF := hF.trans hF2
    refine x_aload_n 0 d_X9_clear_21 rfl rfl ?_
    refine x_getf 1 gf_X9_19 hX.1 rfl d_X9_clear_22 ?_
    refine x_getfN 2 gf_X9_117 (hX.hC 0 (by decide)) rfl d_X9_clear_25 ?_
    refine x_getfN 0 gf_X9_127 (hX.hC 8 (by decide)) rfl d_X9_clear_28 ?_
    refine x_iload_n 1 d_X9_clear_31 rfl rfl ?_
    refine x_invS (rest := []) (d' := d - 1) (mc' := 0) (ms' := 0) [.ref ((x + 4) + 9), .int a0] k_X9_pick lk_X9_88 rfl rfl (Nat.le_of_ble_eq_true rfl) (by omega) (Nat.le_of_ble_eq_true rfl) (Nat.le_of_ble_eq_true rfl) d_X9_clear_32 ((sp_X9_pick (w := w2) (d := d - 1) (by omega) (hX.hC 9 (by decide)) hQ).mono (fun r w2 hr => ?_))
    obtain ⟨r7, rfl, rfl, hQ⟩ := hr
    refine x_istore_n (lv2 := [(2, .int r7), (0, .ref x), (1, .int a0)]) d_X9_clear_35 rfl (by decide) rfl ?_
    refine x_aload_n 1 d_X9_clear_36 rfl rfl ?_
    refine x_getf 1 gf_X9_19 hX.1 rfl d_X9_clear_37 ?_
    refine x_getfN 2 gf_X9_117 (hX.hC 0 (by decide)) rfl d_X9_clear_40 ?_
    refine x_getfN 0 gf_X9_127 (hX.hC 8 (by decide)) rfl d_X9_clear_43 ?_
    refine x_iload_n 2 d_X9_clear_46 rfl rfl ?_
    refine x_iconst (v := (0 : Int32)) d_X9_clear_47 (by decide) ?_
    refine x_invS (rest := []) (d' := d - 1) (mc' := 0) (ms' := 0) [.ref ((x + 4) + 9), .int a0, .int (0 : Int32)] k_X9_put lk_X9_108 rfl rfl (Nat.le_of_ble_eq_true rfl) (by omega) (Nat.le_of_ble_eq_true rfl) (Nat.le_of_ble_eq_true rfl) d_X9_clear_48 ((spa_X9_put (w := w2) (d := d - 1) (by omega) (hX.hC 9 (by decide)) hQ).mono (fun r w2 hr => ?_))
    obtain ⟨f8, rfl, rfl, hQ⟩ := hr
    obtain ⟨s9, e_s9⟩ : ∃ z : RT, z = rI c 9 f8 := ⟨_, rfl⟩
    have hQ := hQ s9 e_s9
    refine X.world (w2 := put w2 (x + 4) 19 (shS (x + 4) s9)) (by have h9 := sS_9 (w := w2) (a := (x + 4)) (s := c) (f := f8); rw [has_eq hX.hC] at h9; rw [e_s9]; exact h9) ?_
    have hF := hF.put (a := (x + 4)) (n := 19) (g := shS (x + 4) s9) (by omega) (by omega)
    have hX := hX.setC (z := s9)
    generalize put w2 (x + 4) 19 (shS (x + 4) s9) = w10 at hX hF ⊢
    refine x_aload_n 1 d_X9_clear_51 rfl rfl ?_
    refine x_getf 1 gf_X9_19 hX.1 rfl d_X9_clear_52 ?_
    have hsp := sp_X6_restart (G := G) (l := l) (w := w10) (a := (x + 4)) (s := s9) (d := d - 1) (by omega) hQ
    rw [has_eq hX.hC] at hsp
    refine x_invV (rest := []) (d' := d - 1) (mc' := 0) (ms' := 0) [] k_X6_restart lk_X9_81 (hX.hC 0 (by decide)) rfl rfl rfl (Nat.le_of_ble_eq_true rfl) (by omega) (Nat.le_of_ble_eq_true rfl) (Nat.le_of_ble_eq_true rfl) d_X9_clear_55 (hsp.mono (fun r w2 hr => ?_))
    obtain ⟨s11, rfl, rfl, hQ⟩ := hr
    have hF := (hF.put (a := (x + 4)) (n := 19) (g := shS (x + 4) s11) (by omega) (by omega))
    have hX := (hX.setC (z := s11))
    generalize put w10 (x + 4) 19 (shS (x + 4) s11) = w12 at hX hF ⊢
    refine x_iload_n 0 d_X9_clear_58 rfl rfl ?_
    exact x_iret (retI d_X9_clear_59 rfl) ⟨_, _, _, _, _, rfl, hX, hF, hQ⟩
  · have hQ := hQ.2 c_4_2
    refine x_ldc (v := (-2000000001 : Int32)) kc_X9_45 d_X9_clear_7 ?_
    exact x_iret (retI d_X9_clear_9 rfl) ⟨_, _, _, _, _, rfl, hX, hF, hQ⟩
def wp_X9_set (t : RT) (c : RT) (r : RT) (p : RT) (ct : Int32) (kp : Nat → Option Nat) (kr : Nat → RT) (sl : Nat → Option Nat) (sr : Nat → RT) (a0 : Int32) (a1 : Int32) (K : Int32 → RT → Int32 → (Nat → Option Nat) → (Nat → RT) → Prop) : Prop := wp_X9_isWithin a0 (0 : Int32) (2 : Int32) (fun (r1 : Int32) => ((r1 = (0 : Int32) → K (-2000000001 : Int32) c ct kp kr) ∧ (¬ r1 = (0 : Int32) → wp_X9_pickRo 3 fLi a0 (fun (r3 : Int32) => wp_X9_pickRo 3 fMi a0 (fun (r4 : Int32) => wp_X9_isWithin a1 r3 r4 (fun (r5 : Int32) => ((¬ r5 = (0 : Int32) → wp_X2_record ct kp kr c (fun (ct7 : Int32) (kp8 : Nat → Option Nat) (kr9 : Nat → RT) => wp_X9_pick 3 (c.1 12) a0 (fun (r11 : Int32) => wp_X9_put 3 (c.1 12) a0 a1 (fun (f12 : Nat → Int32) => ∀ s13 : RT, s13 = rI c 12 f12 → wp_X6_restart s13 (fun (s15 : RT) => K r11 s15 ct7 kp8 kr9))))) ∧ (r5 = (0 : Int32) → K (-2000000001 : Int32) c ct kp kr))))))))
set_option maxHeartbeats 4000000 in
theorem sp_X9_set {G : GX} {l : Launch} {d x : Nat} {w : HW} {t : RT} {c : RT} {r : RT} {p : RT} {ct : Int32} {kp : Nat → Option Nat} {kr : Nat → RT} {sl : Nat → Option Nat} {sr : Nat → RT} {a0 : Int32} {a1 : Int32} {K : Int32 → RT → Int32 → (Nat → Option Nat) → (Nat → RT) → Prop} (hd : 6 ≤ d) (hX : XW w x t c r p ct kp kr sl sr) (hQ : wp_X9_set t c r p ct kp kr sl sr a0 a1 K) : Sp G l m_X9_set d 19 8122 [.ref x, .int a0, .int a1] w (fun r9 w2 => ∃ (r1 : Int32), ∃ (z_c : RT), ∃ (z_ct : Int32), ∃ (z_kp : Nat → Option Nat), ∃ (z_kr : Nat → RT), r9 = some (.int r1) ∧ XW w2 x t z_c r p z_ct z_kp z_kr sl sr ∧ Out x w w2 ∧ K r1 z_c z_ct z_kp z_kr) := by
  refine Sp.ofX k_X9_set.1.1 (Nat.le_of_ble_eq_true rfl) ?_
  refine X.lv (lv2 := [(0, .ref x), (1, .int a0), (2, .int a1)]) rfl ?_
  have hF : Out x w w := Out.rf
  refine x_iload_n 1 d_X9_set_0 rfl rfl ?_
  refine x_iconst (v := (0 : Int32)) d_X9_set_1 (by decide) ?_
  refine x_iconst (v := (2 : Int32)) d_X9_set_2 (by decide) ?_
  refine x_invS (rest := []) (d' := d - 1) (mc' := 0) (ms' := 0) [.int a0, .int (0 : Int32), .int (2 : Int32)] k_X9_isWithin lk_X9_41 rfl rfl (Nat.le_of_ble_eq_true rfl) (by omega) (Nat.le_of_ble_eq_true rfl) (Nat.le_of_ble_eq_true rfl) d_X9_set_3 ((sp_X9_isWithin (w := w) (d := d - 1) (by omega) hQ).mono (fun r w2 hr => ?_))
  obtain ⟨r1, rfl, rfl, hQ⟩ := hr
  refine x_if_eq (tgt := 30) d_X9_set_6 (by decide) (fun c_6_2 => ?_) (fun c_6_2 => ?_)
  · have hQ := hQ.1 c_6_2
    refine x_ldc (v := (-2000000001 : Int32)) kc_X9_45 d_X9_set_30 ?_
    exact x_iret (retI d_X9_set_32 rfl) ⟨_, _, _, _, _, rfl, hX, hF, hQ⟩
  · have hQ := hQ.2 c_6_2
    refine x_iload_n 2 d_X9_set_9 rfl rfl ?_
    refine x_gets (gL G) "SETTING_LEAST" (fun U h => h.2.2.1) sl_X9_134 d_X9_set_10 ?_
    refine x_iload_n 1 d_X9_set_13 rfl rfl ?_
    refine x_invS (rest := [.int a1]) (d' := d - 1) (mc' := 0) (ms' := 0) [.ref (gL G), .int a0] k_X9_pick lk_X9_88 rfl rfl (Nat.le_of_ble_eq_true rfl) (by omega) (Nat.le_of_ble_eq_true rfl) (Nat.le_of_ble_eq_true rfl) d_X9_set_14 ((sp_X9_pickRo (w := w2) (d := d - 1) (by omega) roLeast hQ).mono (fun r w2 hr => ?_))
    obtain ⟨r3, rfl, rfl, hQ⟩ := hr
    refine x_gets (gM G) "SETTING_MOST" (fun U h => h.2.2.2.1) sl_X9_137 d_X9_set_17 ?_
    refine x_iload_n 1 d_X9_set_20 rfl rfl ?_
    refine x_invS (rest := [.int r3, .int a1]) (d' := d - 1) (mc' := 0) (ms' := 0) [.ref (gM G), .int a0] k_X9_pick lk_X9_88 rfl rfl (Nat.le_of_ble_eq_true rfl) (by omega) (Nat.le_of_ble_eq_true rfl) (Nat.le_of_ble_eq_true rfl) d_X9_set_21 ((sp_X9_pickRo (w := w2) (d := d - 1) (by omega) roMost hQ).mono (fun r w2 hr => ?_))
    obtain ⟨r4, rfl, rfl, hQ⟩ := hr
    refine x_invS (rest := []) (d' := d - 1) (mc' := 0) (ms' := 0) [.int a1, .int r3, .int r4] k_X9_isWithin lk_X9_41 rfl rfl (Nat.le_of_ble_eq_true rfl) (by omega) (Nat.le_of_ble_eq_true rfl) (Nat.le_of_ble_eq_true rfl) d_X9_set_24 ((sp_X9_isWithin (w := w2) (d := d - 1) (by omega) hQ).mono (fun r w2 hr => ?_))
    obtain ⟨r5, rfl, rfl, hQ⟩ := hr
    refine x_if_ne (tgt := 33) d_X9_set_27 (by decide) (fun c_27_6 => ?_) (fun c_27_6 => ?_)
    · have hQ := hQ.1 c_27_6
      refine x_aload_n 0 d_X9_set_33 rfl rfl ?_
      refine x_getf 2 gf_X9_26 hX.1 rfl d_X9_set_34 ?_
      refine x_aload_n 0 d_X9_set_37 rfl rfl ?_
      refine x_getf 1 gf_X9_19 hX.1 rfl d_X9_set_38 ?_
      refine x_invV (rest := []) (d' := d - 1) (mc' := 19) (ms' := 8122) [.ref (x + 4)] k_X2_record lk_X9_67 hX.hK0 rfl rfl rfl (Nat.le_of_ble_eq_true rfl) (by omega) (Nat.le_of_ble_eq_true rfl) (Nat.le_of_ble_eq_true rfl) d_X9_set_41 ((sph_X2_record (d := d - 1) (by omega) hX hQ).mono (fun r w2 hr => ?_))
      obtain ⟨ct7, kp8, kr9, rfl, hX, hF2, hQ⟩ := hr
      have hF := hF.trans hF2
      refine x_aload_n 0 d_X9_set_44 rfl rfl ?_
      refine x_getf 1 gf_X9_19 hX.1 rfl d_X9_set_45 ?_
      refine x_getfN 3 gf_X9_140 (hX.hC 0 (by decide)) rfl d_X9_set_48 ?_
      refine x_iload_n 1 d_X9_set_51 rfl rfl ?_
      refine x_invS (rest := []) (d' := d - 1) (mc' := 0) (ms' := 0) [.ref ((x + 4) + 12), .int a0] k_X9_pick lk_X9_88 rfl rfl (Nat.le_of_ble_eq_true rfl) (by omega) (Nat.le_of_ble_eq_true rfl) (Nat.le_of_ble_eq_true rfl) d_X9_set_52 ((sp_X9_pick (w := w2) (d := d - 1) (by omega) (hX.hC 12 (by decide)) hQ).mono (fun r w2 hr => ?_))
      obtain ⟨r11, rfl, rfl, hQ⟩ := hr
      refine x_istore_n (lv2 := [(3, .int r11), (0, .ref x), (1, .int a0), (2, .int a1)]) d_X9_set_55 rfl (by decide) rfl ?_
      refine x_aload_n 1 d_X9_set_56 rfl rfl ?_
      refine x_getf 1 gf_X9_19 hX.1 rfl d_X9_set_57 ?_
      refine x_getfN 3 gf_X9_140 (hX.hC 0 (by decide)) rfl d_X9_set_60 ?_
      refine x_iload_n 2 d_X9_set_63 rfl rfl ?_
      refine x_iload_n 3 d_X9_set_64 rfl rfl ?_
      refine x_invS (rest := []) (d' := d - 1) (mc' := 0) (ms' := 0) [.ref ((x + 4) + 12), .int a0, .int a1] k_X9_put lk_X9_108 rfl rfl (Nat.le_of_ble_eq_true rfl) (by omega) (Nat.le_of_ble_eq_true rfl) (Nat.le_of_ble_eq_true rfl) d_X9_set_65 ((spa_X9_put (w := w2) (d := d - 1) (by omega) (hX.hC 12 (by decide)) hQ).mono (fun r w2 hr => ?_))
      obtain ⟨f12, rfl, rfl, hQ⟩ := hr
      obtain ⟨s13, e_s13⟩ : ∃ z : RT, z = rI c 12 f12 := ⟨_, rfl⟩
      have hQ := hQ s13 e_s13
      refine X.world (w2 := put w2 (x + 4) 19 (shS (x + 4) s13)) (by have h9 := sS_12 (w := w2) (a := (x + 4)) (s := c) (f := f12); rw [has_eq hX.hC] at h9; rw [e_s13]; exact h9) ?_
      have hF := hF.put (a := (x + 4)) (n := 19) (g := shS (x + 4) s13) (by omega) (by omega)
      have hX := hX.setC (z := s13)
      generalize put w2 (x + 4) 19 (shS (x + 4) s13) = w14 at hX hF ⊢
      refine x_aload_n 1 d_X9_set_68 rfl rfl ?_
      refine x_getf 1 gf_X9_19 hX.1 rfl d_X9_set_69 ?_
      have hsp := sp_X6_restart (G := G) (l := l) (w := w14) (a := (x + 4)) (s := s13) (d := d - 1) (by omega) hQ
      rw [has_eq hX.hC] at hsp
      refine x_invV (rest := []) (d' := d - 1) (mc' := 0) (ms' := 0) [] k_X6_restart lk_X9_81 (hX.hC 0 (by decide)) rfl rfl rfl (Nat.le_of_ble_eq_true rfl) (by omega) (Nat.le_of_ble_eq_true rfl) (Nat.le_of_ble_eq_true rfl) d_X9_set_72 (hsp.mono (fun r w2 hr => ?_))
      obtain ⟨s15, rfl, rfl, hQ⟩ := hr
      have hF := (hF.put (a := (x + 4)) (n := 19) (g := shS (x + 4) s15) (by omega) (by omega))
      have hX := (hX.setC (z := s15))
      generalize put w14 (x + 4) 19 (shS (x + 4) s15) = w16 at hX hF ⊢
      refine x_iload_n 0 d_X9_set_75 rfl rfl ?_
      exact x_iret (retI d_X9_set_76 rfl) ⟨_, _, _, _, _, rfl, hX, hF, hQ⟩
    · have hQ := hQ.2 c_27_6
      refine x_ldc (v := (-2000000001 : Int32)) kc_X9_45 d_X9_set_30 ?_
      exact x_iret (retI d_X9_set_32 rfl) ⟨_, _, _, _, _, rfl, hX, hF, hQ⟩
def wp_X9_solve (t : RT) (c : RT) (r : RT) (p : RT) (ct : Int32) (kp : Nat → Option Nat) (kr : Nat → RT) (sl : Nat → Option Nat) (sr : Nat → RT) (a0 : Int32) (K : Int32 → RT → RT → Int32 → (Nat → Option Nat) → (Nat → RT) → Prop) : Prop := wp_X9_isWithin a0 (1 : Int32) (2000 : Int32) (fun (r1 : Int32) => ((¬ r1 = (0 : Int32) → wp_X4_endTime c (fun (r3 : Int32) => ∀ x4 : Int32, x4 = r3 + a0 → ((x4 ≤ (8000 : Int32) → wp_X2_record ct kp kr c (fun (ct6 : Int32) (kp7 : Nat → Option Nat) (kr8 : Nat → RT) => wp_X7_advance p c x4 (fun (s10 : RT) (s11 : RT) => wp_X4_endTime s11 (fun (r13 : Int32) => K r13 s11 s10 ct6 kp7 kr8)))) ∧ (¬ x4 ≤ (8000 : Int32) → K (-2000000003 : Int32) c p ct kp kr)))) ∧ (r1 = (0 : Int32) → K (-2000000001 : Int32) c p ct kp kr)))
set_option maxHeartbeats 4000000 in
theorem sp_X9_solve {G : GX} {l : Launch} {d x : Nat} {w : HW} {t : RT} {c : RT} {r : RT} {p : RT} {ct : Int32} {kp : Nat → Option Nat} {kr : Nat → RT} {sl : Nat → Option Nat} {sr : Nat → RT} {a0 : Int32} {K : Int32 → RT → RT → Int32 → (Nat → Option Nat) → (Nat → RT) → Prop} (hd : 7 ≤ d) (hX : XW w x t c r p ct kp kr sl sr) (hQ : wp_X9_solve t c r p ct kp kr sl sr a0 K) : Sp G l m_X9_solve d 19 8122 [.ref x, .int a0] w (fun r9 w2 => ∃ (r1 : Int32), ∃ (z_c : RT), ∃ (z_p : RT), ∃ (z_ct : Int32), ∃ (z_kp : Nat → Option Nat), ∃ (z_kr : Nat → RT), r9 = some (.int r1) ∧ XW w2 x t z_c r z_p z_ct z_kp z_kr sl sr ∧ Out x w w2 ∧ K r1 z_c z_p z_ct z_kp z_kr) := by
  refine Sp.ofX k_X9_solve.1.1 (Nat.le_of_ble_eq_true rfl) ?_
  refine X.lv (lv2 := [(0, .ref x), (1, .int a0)]) rfl ?_
  have hF : Out x w w := Out.rf
  refine x_iload_n 1 d_X9_solve_0 rfl rfl ?_
  refine x_iconst (v := (1 : Int32)) d_X9_solve_1 (by decide) ?_
  refine x_sipush (v := (2000 : Int32)) d_X9_solve_2 (by decide) ?_
  refine x_invS (rest := []) (d' := d - 1) (mc' := 0) (ms' := 0) [.int a0, .int (1 : Int32), .int (2000 : Int32)] k_X9_isWithin lk_X9_41 rfl rfl (Nat.le_of_ble_eq_true rfl) (by omega) (Nat.le_of_ble_eq_true rfl) (Nat.le_of_ble_eq_true rfl) d_X9_solve_5 ((sp_X9_isWithin (w := w) (d := d - 1) (by omega) hQ).mono (fun r w2 hr => ?_))
  obtain ⟨r1, rfl, rfl, hQ⟩ := hr
  refine x_if_ne (tgt := 14) d_X9_solve_8 (by decide) (fun c_8_2 => ?_) (fun c_8_2 => ?_)
  · have hQ := hQ.1 c_8_2
    refine x_aload_n 0 d_X9_solve_14 rfl rfl ?_
    refine x_getf 1 gf_X9_19 hX.1 rfl d_X9_solve_15 ?_
    refine x_getfN 5 gf_X9_165 (hX.hC 0 (by decide)) rfl d_X9_solve_18 ?_
    have hsp := sp_X4_endTime (G := G) (l := l) (w := w2) (a := (x + 4)) (s := c) (d := d - 1) (by omega) hQ
    rw [has_eq hX.hC] at hsp
    refine x_invV (rest := []) (d' := d - 1) (mc' := 0) (ms' := 0) [] k_X4_endTime lk_X9_169 (hX.hC 17 (by decide)) rfl rfl rfl (Nat.le_of_ble_eq_true rfl) (by omega) (Nat.le_of_ble_eq_true rfl) (Nat.le_of_ble_eq_true rfl) d_X9_solve_21 (hsp.mono (fun r w2 hr => ?_))
    obtain ⟨r3, rfl, rfl, hQ⟩ := hr
    refine x_iload_n 1 d_X9_solve_24 rfl rfl ?_
    refine x_iadd d_X9_solve_25 ?_
    refine x_topi (fun x4 e_x4 => ?_)
    have hQ := hQ x4 e_x4
    refine x_istore_n (lv2 := [(2, .int x4), (0, .ref x), (1, .int a0)]) d_X9_solve_26 rfl (by decide) rfl ?_
    refine x_iload_n 0 d_X9_solve_27 rfl rfl ?_
    refine x_sipush (v := (8000 : Int32)) d_X9_solve_28 (by decide) ?_
    refine x_icmp_le (tgt := 37) d_X9_solve_31 (by decide) (fun c_31_5 => ?_) (fun c_31_5 => ?_)
    · have hQ := hQ.1 c_31_5
      refine x_aload_n 1 d_X9_solve_37 rfl rfl ?_
      refine x_getf 2 gf_X9_26 hX.1 rfl d_X9_solve_38 ?_
      refine x_aload_n 1 d_X9_solve_41 rfl rfl ?_
      refine x_getf 1 gf_X9_19 hX.1 rfl d_X9_solve_42 ?_
      refine x_invV (rest := []) (d' := d - 1) (mc' := 19) (ms' := 8122) [.ref (x + 4)] k_X2_record lk_X9_67 hX.hK0 rfl rfl rfl (Nat.le_of_ble_eq_true rfl) (by omega) (Nat.le_of_ble_eq_true rfl) (Nat.le_of_ble_eq_true rfl) d_X9_solve_45 ((sph_X2_record (d := d - 1) (by omega) hX hQ).mono (fun r w2 hr => ?_))
      obtain ⟨ct6, kp7, kr8, rfl, hX, hF2, hQ⟩ := hr
      have hF := hF.trans hF2
      refine x_aload_n 1 d_X9_solve_48 rfl rfl ?_
      refine x_getf 5 gf_X9_37 hX.1 rfl d_X9_solve_49 ?_
      refine x_aload_n 1 d_X9_solve_52 rfl rfl ?_
      refine x_getf 1 gf_X9_19 hX.1 rfl d_X9_solve_53 ?_
      refine x_iload_n 0 d_X9_solve_56 rfl rfl ?_
      have hsp := sp_X7_advance (G := G) (l := l) (w := w2) (b := (x + 26)) (p := p) (a := (x + 4)) (s := c) (d := d - 1) (by omega) (by omega) hQ
      rw [has_eq hX.hP, has_eq hX.hC] at hsp
      refine x_invV (rest := []) (d' := d - 1) (mc' := 0) (ms' := 0) [.ref (x + 4), .int x4] k_X7_advance lk_X9_174 (hX.hP 0 (by decide)) rfl rfl rfl (Nat.le_of_ble_eq_true rfl) (by omega) (Nat.le_of_ble_eq_true rfl) (Nat.le_of_ble_eq_true rfl) d_X9_solve_57 (hsp.mono (fun r w2 hr => ?_))
      obtain ⟨s10, s11, rfl, rfl, hQ⟩ := hr
      have hF := ((hF.put (a := (x + 26)) (n := 7) (g := shP (x + 26) s10) (by omega) (by omega)).put (a := (x + 4)) (n := 19) (g := shS (x + 4) s11) (by omega) (by omega))
      have hX := ((hX.setP (z := s10)).setC (z := s11))
      generalize put (put w2 (x + 26) 7 (shP (x + 26) s10)) (x + 4) 19 (shS (x + 4) s11) = w12 at hX hF ⊢
      refine x_aload_n 1 d_X9_solve_60 rfl rfl ?_
      refine x_getf 1 gf_X9_19 hX.1 rfl d_X9_solve_61 ?_
      refine x_getfN 5 gf_X9_165 (hX.hC 0 (by decide)) rfl d_X9_solve_64 ?_
      have hsp := sp_X4_endTime (G := G) (l := l) (w := w12) (a := (x + 4)) (s := s11) (d := d - 1) (by omega) hQ
      rw [has_eq hX.hC] at hsp
      refine x_invV (rest := []) (d' := d - 1) (mc' := 0) (ms' := 0) [] k_X4_endTime lk_X9_169 (hX.hC 17 (by decide)) rfl rfl rfl (Nat.le_of_ble_eq_true rfl) (by omega) (Nat.le_of_ble_eq_true rfl) (Nat.le_of_ble_eq_true rfl) d_X9_solve_67 (hsp.mono (fun r w2 hr => ?_))
      obtain ⟨r13, rfl, rfl, hQ⟩ := hr
      exact x_iret (retI d_X9_solve_70 rfl) ⟨_, _, _, _, _, _, rfl, hX, hF, hQ⟩
    · have hQ := hQ.2 c_31_5
      refine x_ldc (v := (-2000000003 : Int32)) kc_X9_54 d_X9_solve_34 ?_
      exact x_iret (retI d_X9_solve_36 rfl) ⟨_, _, _, _, _, _, rfl, hX, hF, hQ⟩
  · have hQ := hQ.2 c_8_2
    refine x_ldc (v := (-2000000001 : Int32)) kc_X9_45 d_X9_solve_11 ?_
    exact x_iret (retI d_X9_solve_13 rfl) ⟨_, _, _, _, _, _, rfl, hX, hF, hQ⟩
def wp_X9_undo (t : RT) (c : RT) (r : RT) (p : RT) (ct : Int32) (kp : Nat → Option Nat) (kr : Nat → RT) (sl : Nat → Option Nat) (sr : Nat → RT) (K : Int32 → RT → Int32 → Prop) : Prop := wp_X2_giveBack ct kp kr c (fun (r1 : Int32) (ct2 : Int32) (s3 : RT) => ((r1 = (0 : Int32) → K (-2000000002 : Int32) s3 ct2) ∧ (¬ r1 = (0 : Int32) → K ct2 s3 ct2)))
set_option maxHeartbeats 4000000 in
theorem sp_X9_undo {G : GX} {l : Launch} {d x : Nat} {w : HW} {t : RT} {c : RT} {r : RT} {p : RT} {ct : Int32} {kp : Nat → Option Nat} {kr : Nat → RT} {sl : Nat → Option Nat} {sr : Nat → RT} {K : Int32 → RT → Int32 → Prop} (hd : 6 ≤ d) (hX : XW w x t c r p ct kp kr sl sr) (hQ : wp_X9_undo t c r p ct kp kr sl sr K) : Sp G l m_X9_undo d 19 8122 [.ref x] w (fun r9 w2 => ∃ (r1 : Int32), ∃ (z_c : RT), ∃ (z_ct : Int32), r9 = some (.int r1) ∧ XW w2 x t z_c r p z_ct kp kr sl sr ∧ Out x w w2 ∧ K r1 z_c z_ct) := by
  refine Sp.ofX k_X9_undo.1.1 (Nat.le_of_ble_eq_true rfl) ?_
  refine X.lv (lv2 := [(0, .ref x)]) rfl ?_
  have hF : Out x w w := Out.rf
  refine x_aload_n 0 d_X9_undo_0 rfl rfl ?_
  refine x_getf 2 gf_X9_26 hX.1 rfl d_X9_undo_1 ?_
  refine x_aload_n 0 d_X9_undo_4 rfl rfl ?_
  refine x_getf 1 gf_X9_19 hX.1 rfl d_X9_undo_5 ?_
  refine x_invV (rest := []) (d' := d - 1) (mc' := 0) (ms' := 0) [.ref (x + 4)] k_X2_giveBack lk_X9_237 hX.hK0 rfl rfl rfl (Nat.le_of_ble_eq_true rfl) (by omega) (Nat.le_of_ble_eq_true rfl) (Nat.le_of_ble_eq_true rfl) d_X9_undo_8 ((sph_X2_giveBack (d := d - 1) (by omega) hX hQ).mono (fun r w2 hr => ?_))
  obtain ⟨r1, ct2, s3, rfl, hX, hF2, hQ⟩ := hr
  have hF := hF.trans hF2
  refine x_if_eq (tgt := 24) d_X9_undo_11 (by decide) (fun c_11_4 => ?_) (fun c_11_4 => ?_)
  · have hQ := hQ.1 c_11_4
    refine x_ldc (v := (-2000000002 : Int32)) kc_X9_66 d_X9_undo_24 ?_
    exact x_iret (retI d_X9_undo_26 rfl) ⟨_, _, _, rfl, hX, hF, hQ⟩
  · have hQ := hQ.2 c_11_4
    refine x_aload_n 0 d_X9_undo_14 rfl rfl ?_
    refine x_getf 2 gf_X9_26 hX.1 rfl d_X9_undo_15 ?_
    refine x_getfN 1 gf_X9_233 hX.hK0 rfl d_X9_undo_18 ?_
    refine x_goto (tgt := 26) d_X9_undo_21 (by decide) ?_
    exact x_iret (retI d_X9_undo_26 rfl) ⟨_, _, _, rfl, hX, hF, hQ⟩
def wp_X9_save (t c r p : RT) (ct : Int32) (kp : Nat → Option Nat) (kr : Nat → RT) (sl : Nat → Option Nat) (sr : Nat → RT) (a0 : Int32) (K : Int32 → (Nat → Option Nat) → (Nat → RT) → Prop) : Prop :=
  (a0 < 0 → K (-2000000001) sl sr) ∧ (¬ a0 < 0 → (a0 < nI 2 → (sl a0.toNatClampNeg = none → wp_X6_copyFrom c s0S (fun s => wp_X4_endTime c (fun v => ∀ b : Nat, K v (va_up sl a0.toNatClampNeg (some b)) (va_up sr a0.toNatClampNeg s)))) ∧ (∀ b : Nat, sl a0.toNatClampNeg = some b → wp_X6_copyFrom c (sr a0.toNatClampNeg) (fun s => wp_X4_endTime c (fun v => K v sl (va_up sr a0.toNatClampNeg s))))) ∧ (¬ a0 < nI 2 → K (-2000000001) sl sr))
theorem ct_in2 {ct : Int32} (h1 : ¬ ct < 0) (h2 : ct < nI 2) : ct.toNatClampNeg < 2 ∧ vp_in ct 2 := by
  obtain ⟨j, hj, rfl⟩ := nI_of h1
  have h3 := (nI_ltI hj (by decide)).mp h2
  exact ⟨by rw [nI_clamp hj]; exact h3, vp_in_nI h3 (by decide)⟩
set_option maxHeartbeats 4000000 in
set_option maxRecDepth 4000 in
theorem sp_X9_save {G : GX} {l : Launch} {d x : Nat} {w : HW} {t c r p : RT} {ct : Int32} {kp : Nat → Option Nat} {kr : Nat → RT} {sl : Nat → Option Nat} {sr : Nat → RT} {a0 : Int32} {K : Int32 → (Nat → Option Nat) → (Nat → RT) → Prop} (hd : 5 ≤ d) (hX : XW w x t c r p ct kp kr sl sr) (hQ : wp_X9_save t c r p ct kp kr sl sr a0 K) : Sp G l m_X9_save d 19 8122 [.ref x, .int a0] w (fun r9 w2 => ∃ (r1 : Int32) (z_sl : Nat → Option Nat) (z_sr : Nat → RT), r9 = some (.int r1) ∧ XW w2 x t c r p ct kp kr z_sl z_sr ∧ Out x w w2 ∧ K r1 z_sl z_sr) := by
  refine Sp.ofX k_X9_save.1.1 (Nat.le_of_ble_eq_true rfl) ?_
  refine X.lv (lv2 := [(0, .ref x), (1, .int a0)]) rfl ?_
  refine x_iload_n 1 d_X9_save_0 rfl rfl ?_
  refine x_if_lt (tgt := 13) d_X9_save_1 (by decide) (fun q1 => ?_) (fun q1 => ?_)
  · have hQ := hQ.1 q1
    refine x_ldc (v := (-2000000001 : Int32)) kc_X9_45 d_X9_save_13 ?_
    exact x_iret (retI d_X9_save_15 rfl) ⟨_, _, _, rfl, hX, Out.rf, hQ⟩
  · have hQ := hQ.2 q1
    refine x_iload_n 1 d_X9_save_4 rfl rfl ?_
    refine x_aload_n 0 d_X9_save_5 rfl rfl ?_
    refine x_getf 3 gf_X9_30 hX.1 rfl d_X9_save_6 ?_
    refine x_alenR hX.hZ d_X9_save_9 ?_
    refine x_icmp_lt (tgt := 16) d_X9_save_10 (by decide) (fun q2 => ?_) (fun q2 => ?_)
    · obtain ⟨qn, qs⟩ := hQ.1 q2
      obtain ⟨hi, hin⟩ := ct_in2 q1 q2
      have hF : Out x w w := Out.rf
      have hX0 := hX.h2
      refine x_aload_n 0 d_X9_save_16 rfl rfl ?_
      refine x_getf 3 gf_X9_30 hX.1 rfl d_X9_save_17 ?_
      refine x_iload_n 1 d_X9_save_20 rfl rfl ?_
      cases hk : sl a0.toNatClampNeg with
      | none =>
        have hQ := qn hk
        refine x_aaldN _ rfl hk hX.hZ hin d_X9_save_21 ?_
        refine x_astoreN_n (lv2 := [(2, .null), (0, .ref x), (1, .int a0)]) d_X9_save_22 rfl (by decide) rfl ?_
        refine x_aloadN_n 0 d_X9_save_23 rfl rfl ?_
        refine x_ifnonnullN d_X9_save_24 ?_
        have h2 := hX.h2
        refine x_new [.null, .null, .null, .null, .null, .null] cl_X9_16 (lt_s (lt_s (lt_s (lt_s (lt_s (lt_s lt_0 rfl) rfl) rfl) rfl) rfl) rfl) (Nat.le_of_ble_eq_true rfl) (Nat.le_of_ble_eq_true rfl) d_X9_save_27 ?_
        refine X.world (w2 := ex w w.2 [cO 6 [.null, .null, .null, .null, .null, .null]]) (ex_one rfl) ?_
        refine x_dup d_X9_save_30 rfl ?_
        refine x_invIN (rest := [.ref w.2]) (d' := d - 1) (mc' := 18) (ms' := 8116) w.2 [] "LagSolver" k_X6_init lk_X9_18 rfl rfl (Nat.le_of_ble_eq_true rfl) (by omega) (Nat.le_of_ble_eq_true rfl) (Nat.le_of_ble_eq_true rfl) d_X9_save_31 ((spc_X6_init (d := d - 1) (by omega)).mono (fun r w2 hr => ?_))
        obtain ⟨rfl, rfl⟩ := hr
        refine X.world exS ?_
        refine x_astore_n (lv2 := [(2, .ref (w.2)), (0, .ref x), (1, .int a0)]) d_X9_save_34 rfl (by decide) rfl ?_
        have hG := hX.grow (g := shS w.2 s0S)
        refine x_aload_n 1 d_X9_save_35 rfl rfl ?_
        refine x_getf 3 gf_X9_30 hG.1 rfl d_X9_save_36 ?_
        refine x_iload_n 2 d_X9_save_39 rfl rfl ?_
        refine x_aload_n 0 d_X9_save_40 rfl rfl ?_
        refine x_aastE _ rfl hG.hZ (put_at0 (by decide) rfl) hin d_X9_save_41 ?_
        have hX := hX.addZ hi (s := s0S)
        have hF := out_grow (g := shS w.2 s0S) hF hX0
        have hF := hF.hset (a := x + 25) (c := cR 2 (va_up sl a0.toNatClampNeg (some w.2))) (by omega) (by omega)
        generalize hb0 : w.2 = b at hX hF h2 ⊢
        generalize hset (put (w.1, b + 19) b 19 (shS b s0S)) (x + 25) (cR 2 (va_up sl a0.toNatClampNeg (some b))) = w5 at hX hF ⊢
        have hkb : va_up sl a0.toNatClampNeg (some b) a0.toNatClampNeg = some b := by simp [va_up]
        have hZ := hX.hL.2.1 _ b hi hkb
        refine x_aload_n 0 d_X9_save_42 rfl rfl ?_
        refine x_aload_n 1 d_X9_save_43 rfl rfl ?_
        refine x_getf 1 gf_X9_19 hX.1 rfl d_X9_save_44 ?_
        have hsp := sp_X6_copyFrom (G := G) (l := l) (w := w5) (b := x + 4) (t := c) (a := b) (s := s0S) (d := d - 1) (by omega) (by omega) hQ
        rw [has_eq hX.hC] at hsp
        have e9 : put w5 b 19 (shS b s0S) = w5 := has_eq (by have h8 := hZ.2.2; simpa [va_up] using h8)
        rw [e9] at hsp
        refine x_invV (rest := []) (d' := d - 1) (mc' := 0) (ms' := 0) [.ref (x + 4)] k_X6_copyFrom lk_X9_241 (hZ.2.2 0 (by decide)) rfl rfl rfl (Nat.le_of_ble_eq_true rfl) (by omega) (Nat.le_of_ble_eq_true rfl) (Nat.le_of_ble_eq_true rfl) d_X9_save_47 (hsp.mono (fun r w2 hr => ?_))
        obtain ⟨s7, rfl, rfl, hQ⟩ := hr
        have hX := hX.updZ hi hkb (s := s7)
        have hF := out_putL (b := b) (n := 19) (g := shS b s7) hF h2
        have ekr : va_up (va_up sr a0.toNatClampNeg s0S) a0.toNatClampNeg s7 = va_up sr a0.toNatClampNeg s7 := by funext j; by_cases e : j = a0.toNatClampNeg <;> simp [va_up, e]
        rw [ekr] at hX
        generalize put w5 b 19 (shS b s7) = w6 at hX hF ⊢
        refine x_aload_n 1 d_X9_save_50 rfl rfl ?_
        refine x_getf 1 gf_X9_19 hX.1 rfl d_X9_save_51 ?_
        refine x_getfN 5 gf_X9_165 (hX.hC 0 (by decide)) rfl d_X9_save_54 ?_
        have hsp := sp_X4_endTime (G := G) (l := l) (w := w6) (a := x + 4) (s := c) (d := d - 1) (by omega) hQ
        rw [has_eq hX.hC] at hsp
        refine x_invV (rest := []) (d' := d - 1) (mc' := 0) (ms' := 0) [] k_X4_endTime lk_X9_169 (hX.hC 17 (by decide)) rfl rfl rfl (Nat.le_of_ble_eq_true rfl) (by omega) (Nat.le_of_ble_eq_true rfl) (Nat.le_of_ble_eq_true rfl) d_X9_save_57 (hsp.mono (fun r w2 hr => ?_))
        obtain ⟨r5, rfl, rfl, hQ⟩ := hr
        exact x_iret (retI d_X9_save_60 rfl) ⟨_, _, _, rfl, hX, hF, hQ b⟩
      | some b =>
        have hQ := qs b hk
        refine x_aaldS _ rfl hk hX.hZ hin d_X9_save_21 ?_
        refine x_astore_n (lv2 := [(2, .ref b), (0, .ref x), (1, .int a0)]) d_X9_save_22 rfl (by decide) rfl ?_
        refine x_aload_n 0 d_X9_save_23 rfl rfl ?_
        refine x_ifnonnull (tgt := 42) d_X9_save_24 (by decide) ?_
        refine x_aload_n 0 d_X9_save_42 rfl rfl ?_
        refine x_aload_n 1 d_X9_save_43 rfl rfl ?_
        refine x_getf 1 gf_X9_19 hX.1 rfl d_X9_save_44 ?_
        have hZ := hX.hL.2.1 _ b hi hk
        have hsp := sp_X6_copyFrom (G := G) (l := l) (w := w) (b := x + 4) (t := c) (a := b) (s := sr a0.toNatClampNeg) (d := d - 1) (by omega) (by have h9 := hZ.1; omega) hQ
        rw [has_eq hX.hC, has_eq hZ.2.2] at hsp
        refine x_invV (rest := []) (d' := d - 1) (mc' := 0) (ms' := 0) [.ref (x + 4)] k_X6_copyFrom lk_X9_241 (hZ.2.2 0 (by decide)) rfl rfl rfl (Nat.le_of_ble_eq_true rfl) (by omega) (Nat.le_of_ble_eq_true rfl) (Nat.le_of_ble_eq_true rfl) d_X9_save_47 (hsp.mono (fun r w2 hr => ?_))
        obtain ⟨s7, rfl, rfl, hQ⟩ := hr
        have hX := hX.updZ hi hk (s := s7)
        have hF := out_putL (b := b) (n := 19) (g := shS b s7) hF hZ.1
        generalize put w b 19 (shS b s7) = w6 at hX hF ⊢
        refine x_aload_n 1 d_X9_save_50 rfl rfl ?_
        refine x_getf 1 gf_X9_19 hX.1 rfl d_X9_save_51 ?_
        refine x_getfN 5 gf_X9_165 (hX.hC 0 (by decide)) rfl d_X9_save_54 ?_
        have hsp := sp_X4_endTime (G := G) (l := l) (w := w6) (a := x + 4) (s := c) (d := d - 1) (by omega) hQ
        rw [has_eq hX.hC] at hsp
        refine x_invV (rest := []) (d' := d - 1) (mc' := 0) (ms' := 0) [] k_X4_endTime lk_X9_169 (hX.hC 17 (by decide)) rfl rfl rfl (Nat.le_of_ble_eq_true rfl) (by omega) (Nat.le_of_ble_eq_true rfl) (Nat.le_of_ble_eq_true rfl) d_X9_save_57 (hsp.mono (fun r w2 hr => ?_))
        obtain ⟨r5, rfl, rfl, hQ⟩ := hr
        exact x_iret (retI d_X9_save_60 rfl) ⟨_, _, _, rfl, hX, hF, hQ⟩
    · have hQ := hQ.2 q2
      refine x_ldc (v := (-2000000001 : Int32)) kc_X9_45 d_X9_save_13 ?_
      exact x_iret (retI d_X9_save_15 rfl) ⟨_, _, _, rfl, hX, Out.rf, hQ⟩
def wp_X9_restore (t c r p : RT) (ct : Int32) (kp : Nat → Option Nat) (kr : Nat → RT) (sl : Nat → Option Nat) (sr : Nat → RT) (a0 : Int32) (K : Int32 → RT → Int32 → (Nat → Option Nat) → (Nat → RT) → Prop) : Prop :=
  (a0 < 0 → K (-2000000001) c ct kp kr) ∧ (¬ a0 < 0 → (a0 < nI 2 → (sl a0.toNatClampNeg = none → K (-2000000002) c ct kp kr) ∧ (∀ b : Nat, sl a0.toNatClampNeg = some b → wp_X2_record ct kp kr c (fun ct2 kp2 kr2 => wp_X6_copyFrom (sr a0.toNatClampNeg) c (fun s => wp_X4_endTime s (fun v => K v s ct2 kp2 kr2))))) ∧ (¬ a0 < nI 2 → K (-2000000001) c ct kp kr))
set_option maxHeartbeats 4000000 in
set_option maxRecDepth 4000 in
theorem sp_X9_restore {G : GX} {l : Launch} {d x : Nat} {w : HW} {t c r p : RT} {ct : Int32} {kp : Nat → Option Nat} {kr : Nat → RT} {sl : Nat → Option Nat} {sr : Nat → RT} {a0 : Int32} {K : Int32 → RT → Int32 → (Nat → Option Nat) → (Nat → RT) → Prop} (hd : 6 ≤ d) (hX : XW w x t c r p ct kp kr sl sr) (hQ : wp_X9_restore t c r p ct kp kr sl sr a0 K) : Sp G l m_X9_restore d 19 8122 [.ref x, .int a0] w (fun r9 w2 => ∃ (r1 : Int32) (z_c : RT) (z_ct : Int32) (z_kp : Nat → Option Nat) (z_kr : Nat → RT), r9 = some (.int r1) ∧ XW w2 x t z_c r p z_ct z_kp z_kr sl sr ∧ Out x w w2 ∧ K r1 z_c z_ct z_kp z_kr) := by
  refine Sp.ofX k_X9_restore.1.1 (Nat.le_of_ble_eq_true rfl) ?_
  refine X.lv (lv2 := [(0, .ref x), (1, .int a0)]) rfl ?_
  refine x_iload_n 1 d_X9_restore_0 rfl rfl ?_
  refine x_if_lt (tgt := 13) d_X9_restore_1 (by decide) (fun q1 => ?_) (fun q1 => ?_)
  · have hQ := hQ.1 q1
    refine x_ldc (v := (-2000000001 : Int32)) kc_X9_45 d_X9_restore_13 ?_
    exact x_iret (retI d_X9_restore_15 rfl) ⟨_, _, _, _, _, rfl, hX, Out.rf, hQ⟩
  · have hQ := hQ.2 q1
    refine x_iload_n 1 d_X9_restore_4 rfl rfl ?_
    refine x_aload_n 0 d_X9_restore_5 rfl rfl ?_
    refine x_getf 3 gf_X9_30 hX.1 rfl d_X9_restore_6 ?_
    refine x_alenR hX.hZ d_X9_restore_9 ?_
    refine x_icmp_lt (tgt := 16) d_X9_restore_10 (by decide) (fun q2 => ?_) (fun q2 => ?_)
    · obtain ⟨qn, qs⟩ := hQ.1 q2
      obtain ⟨hi, hin⟩ := ct_in2 q1 q2
      refine x_aload_n 0 d_X9_restore_16 rfl rfl ?_
      refine x_getf 3 gf_X9_30 hX.1 rfl d_X9_restore_17 ?_
      refine x_iload_n 1 d_X9_restore_20 rfl rfl ?_
      cases hk : sl a0.toNatClampNeg with
      | none =>
        have hQ := qn hk
        refine x_aaldN _ rfl hk hX.hZ hin d_X9_restore_21 ?_
        refine x_astoreN_n (lv2 := [(2, .null), (0, .ref x), (1, .int a0)]) d_X9_restore_22 rfl (by decide) rfl ?_
        refine x_aloadN_n 0 d_X9_restore_23 rfl rfl ?_
        refine x_ifnonnullN d_X9_restore_24 ?_
        refine x_ldc (v := (-2000000002 : Int32)) kc_X9_66 d_X9_restore_27 ?_
        exact x_iret (retI d_X9_restore_29 rfl) ⟨_, _, _, _, _, rfl, hX, Out.rf, hQ⟩
      | some b =>
        have hQ := qs b hk
        refine x_aaldS _ rfl hk hX.hZ hin d_X9_restore_21 ?_
        refine x_astore_n (lv2 := [(2, .ref b), (0, .ref x), (1, .int a0)]) d_X9_restore_22 rfl (by decide) rfl ?_
        refine x_aload_n 0 d_X9_restore_23 rfl rfl ?_
        refine x_ifnonnull (tgt := 30) d_X9_restore_24 (by decide) ?_
        refine x_aload_n 1 d_X9_restore_30 rfl rfl ?_
        refine x_getf 2 gf_X9_26 hX.1 rfl d_X9_restore_31 ?_
        refine x_aload_n 1 d_X9_restore_34 rfl rfl ?_
        refine x_getf 1 gf_X9_19 hX.1 rfl d_X9_restore_35 ?_
        refine x_invV (rest := []) (d' := d - 1) (mc' := 19) (ms' := 8122) [.ref (x + 4)] k_X2_record lk_X9_67 hX.hK0 rfl rfl rfl (Nat.le_of_ble_eq_true rfl) (by omega) (Nat.le_of_ble_eq_true rfl) (Nat.le_of_ble_eq_true rfl) d_X9_restore_38 ((sph_X2_record (d := d - 1) (by omega) hX hQ).mono (fun r w2 hr => ?_))
        obtain ⟨ct2, kp2, kr2, rfl, hX, hF, hQ⟩ := hr
        refine x_aload_n 1 d_X9_restore_41 rfl rfl ?_
        refine x_getf 1 gf_X9_19 hX.1 rfl d_X9_restore_42 ?_
        refine x_aload_n 0 d_X9_restore_45 rfl rfl ?_
        have hZ := hX.hL.2.1 _ b hi hk
        have hsp := sp_X6_copyFrom (G := G) (l := l) (w := w2) (b := b) (t := sr a0.toNatClampNeg) (a := x + 4) (s := c) (d := d - 1) (by omega) (by have h9 := hZ.1; omega) hQ
        rw [has_eq hZ.2.2, has_eq hX.hC] at hsp
        refine x_invV (rest := []) (d' := d - 1) (mc' := 0) (ms' := 0) [.ref b] k_X6_copyFrom lk_X9_241 (hX.hC 0 (by decide)) rfl rfl rfl (Nat.le_of_ble_eq_true rfl) (by omega) (Nat.le_of_ble_eq_true rfl) (Nat.le_of_ble_eq_true rfl) d_X9_restore_46 (hsp.mono (fun r w3 hr => ?_))
        obtain ⟨s7, rfl, rfl, hQ⟩ := hr
        have hX := hX.setC (z := s7)
        have hF := hF.put (a := x + 4) (n := 19) (g := shS (x + 4) s7) (by omega) (by omega)
        generalize put w2 (x + 4) 19 (shS (x + 4) s7) = w6 at hX hF ⊢
        refine x_aload_n 1 d_X9_restore_49 rfl rfl ?_
        refine x_getf 1 gf_X9_19 hX.1 rfl d_X9_restore_50 ?_
        refine x_getfN 5 gf_X9_165 (hX.hC 0 (by decide)) rfl d_X9_restore_53 ?_
        have hsp := sp_X4_endTime (G := G) (l := l) (w := w6) (a := x + 4) (s := s7) (d := d - 1) (by omega) hQ
        rw [has_eq hX.hC] at hsp
        refine x_invV (rest := []) (d' := d - 1) (mc' := 0) (ms' := 0) [] k_X4_endTime lk_X9_169 (hX.hC 17 (by decide)) rfl rfl rfl (Nat.le_of_ble_eq_true rfl) (by omega) (Nat.le_of_ble_eq_true rfl) (Nat.le_of_ble_eq_true rfl) d_X9_restore_56 (hsp.mono (fun r w2 hr => ?_))
        obtain ⟨r5, rfl, rfl, hQ⟩ := hr
        exact x_iret (retI d_X9_restore_59 rfl) ⟨_, _, _, _, _, rfl, hX, hF, hQ⟩
    · have hQ := hQ.2 q2
      refine x_ldc (v := (-2000000001 : Int32)) kc_X9_45 d_X9_restore_13 ?_
      exact x_iret (retI d_X9_restore_15 rfl) ⟨_, _, _, _, _, rfl, hX, Out.rf, hQ⟩
theorem X.widen {G : GX} {l : Launch} {M : MD} {d mc ms k n k2 n2 pc : Nat} {lv : List (Nat × Value)} {st : List Value} {w : HW} {Q : Option Value → HW → Prop} (h1 : k ≤ k2) (h2 : n ≤ n2) (h3 : k2 ≤ mc) (h4 : n2 ≤ ms) (kk : X G l M d mc ms k2 n2 pc lv st w Q) : X G l M d mc ms k n pc lv st w Q := fun p e R s m args below meth c Z H locs ls A E hR hL hl _ _ => W.widen h1 h2 (kk p e R s m args below meth c Z H locs ls A E hR hL hl h3 h4)
def lp_X9_differs_90 (t : RT) (c : RT) (ct : Int32) (kp : Nat → Option Nat) (kr : Nat → RT) (sl : Nat → Option Nat) (sr : Nat → RT) (a0 : Int32) (K : Int32 → RT → RT → Prop) : Nat → Int64 → Int32 → RT → RT → Prop
  | 0, _, _, _, _ => False
  | n + 1, x_3, x_5, y_r, y_p => (((3 : Int32) ≤ x_5 → wp_X9_hold x_3 (fun (r13 : Int32) => K r13 y_r y_p)) ∧ (¬ (3 : Int32) ≤ x_5 → wp_X4_endValue c x_5 (fun (r14 : Int32) => ∀ x15 : Int64, x15 = r14.toInt64 → wp_X4_endValue y_r x_5 (fun (r16 : Int32) => ∀ x17 : Int64, x17 = (if (if 0 < ((r16.toInt64) - x15) then ((r16.toInt64) - x15) else -((r16.toInt64) - x15)) < x_3 then x_3 else (if 0 < ((r16.toInt64) - x15) then ((r16.toInt64) - x15) else -((r16.toInt64) - x15))) → ∀ x18 : Int32, x18 = x_5 + (1 : Int32) → lp_X9_differs_90 t c ct kp kr sl sr a0 K n x17 x18 y_r y_p))))
set_option maxHeartbeats 4000000 in
theorem jt_X9_differs_90 {G : GX} {l : Launch} {d x b : Nat} {wa : HW} {t : RT} {c : RT} {ct : Int32} {kp : Nat → Option Nat} {kr : Nat → RT} {sl : Nat → Option Nat} {sr : Nat → RT} {a0 : Int32} {K : Int32 → RT → RT → Prop} (hd : 7 ≤ d) : ∀ (n : Nat) (x_3 : Int64) (x_5 : Int32) (y_r : RT) (y_p : RT) (w : HW), XB w x b t c y_r y_p ct kp kr sl sr → Out x wa w → lp_X9_differs_90 t c ct kp kr sl sr a0 K n x_3 x_5 y_r y_p → X G l m_X9_differs d 19 8122 19 8122 90 [(0, .ref x), (2, .ref b), (3, .long x_3), (5, .int x_5)] [] w (fun r9 w2 => ∃ (r1 : Int32), ∃ (z_r : RT), ∃ (z_p : RT), r9 = some (.int r1) ∧ XW w2 x t c z_r z_p ct kp kr sl sr ∧ Out x wa w2 ∧ K r1 z_r z_p) := by
  intro n
  induction n with
  | zero =>
    intro x_3 x_5 y_r y_p w hX hF hQ
    exact hQ.elim
  | succ n ih =>
    intro x_3 x_5 y_r y_p w hX hF hQ
    have hlb := hX.lb
    refine x_iload 3 d_X9_differs_90 rfl ?_
    refine x_iconst (v := (3 : Int32)) d_X9_differs_92 (by decide) ?_
    refine x_icmp_ge (tgt := 138) d_X9_differs_93 (by decide) (fun c_93_12 => ?_) (fun c_93_12 => ?_)
    · have hQ := hQ.1 c_93_12
      refine x_lload_n 2 d_X9_differs_138 rfl rfl ?_
      refine x_invS (rest := []) (d' := d - 1) (mc' := 0) (ms' := 0) [.long x_3] k_X9_hold lk_X9_229 rfl rfl (Nat.le_of_ble_eq_true rfl) (by omega) (Nat.le_of_ble_eq_true rfl) (Nat.le_of_ble_eq_true rfl) d_X9_differs_139 ((sp_X9_hold (w := w) (d := d - 1) (by omega) hQ).mono (fun r w2 hr => ?_))
      obtain ⟨r13, rfl, rfl, hQ⟩ := hr
      exact x_iret (retI d_X9_differs_142 rfl) ⟨_, _, _, rfl, hX.1, hF, hQ⟩
    · have hQ := hQ.2 c_93_12
      refine x_aload_n 0 d_X9_differs_96 rfl rfl ?_
      refine x_getf 1 gf_X9_19 hX.1.1 rfl d_X9_differs_97 ?_
      refine x_getfN 5 gf_X9_165 (hX.hC 0 (by decide)) rfl d_X9_differs_100 ?_
      refine x_iload 3 d_X9_differs_103 rfl ?_
      have hsp := sp_X4_endValue (G := G) (l := l) (w := w) (a := (x + 4)) (s := c) (d := d - 1) (by omega) hQ
      rw [has_eq hX.hC] at hsp
      refine x_invV (rest := []) (d' := d - 1) (mc' := 0) (ms' := 0) [.int x_5] k_X4_endValue lk_X9_216 (hX.hC 17 (by decide)) rfl rfl rfl (Nat.le_of_ble_eq_true rfl) (by omega) (Nat.le_of_ble_eq_true rfl) (Nat.le_of_ble_eq_true rfl) d_X9_differs_105 (hsp.mono (fun r w2 hr => ?_))
      obtain ⟨r14, rfl, rfl, hQ⟩ := hr
      refine x_i2l d_X9_differs_108 rfl ?_
      refine x_topl (fun x15 e_x15 => ?_)
      have hQ := hQ x15 e_x15
      refine x_lstore (lv2 := [(6, .long x15), (0, .ref x), (2, .ref b), (3, .long x_3), (5, .int x_5)]) d_X9_differs_109 (by decide) rfl ?_
      refine x_lload_n 3 d_X9_differs_111 rfl rfl ?_
      refine x_aload_n 2 d_X9_differs_112 rfl rfl ?_
      refine x_getfN 5 gf_X9_165 (hX.hR 0 (by decide)) rfl d_X9_differs_113 ?_
      refine x_iload 4 d_X9_differs_116 rfl ?_
      have hsp := sp_X4_endValue (G := G) (l := l) (w := w2) (a := b) (s := y_r) (d := d - 1) (by omega) hQ
      rw [has_eq hX.hR] at hsp
      refine x_invV (rest := [.long x_3]) (d' := d - 1) (mc' := 0) (ms' := 0) [.int x_5] k_X4_endValue lk_X9_216 (hX.hR 17 (by decide)) rfl rfl rfl (Nat.le_of_ble_eq_true rfl) (by omega) (Nat.le_of_ble_eq_true rfl) (Nat.le_of_ble_eq_true rfl) d_X9_differs_118 (hsp.mono (fun r w2 hr => ?_))
      obtain ⟨r16, rfl, rfl, hQ⟩ := hr
      refine x_i2l d_X9_differs_121 rfl ?_
      refine x_lload 0 d_X9_differs_122 rfl ?_
      refine x_lsub d_X9_differs_124 ?_
      refine x_mabsL lk_X9_219 jw_absL_s iw_Math jw_absL_c (Nat.le_of_ble_eq_true rfl) (by omega) d_X9_differs_125 ?_
      refine x_mmaxL lk_X9_225 jw_maxL_s iw_Math jw_maxL_c (Nat.le_of_ble_eq_true rfl) (by omega) d_X9_differs_128 ?_
      refine x_topl (fun x17 e_x17 => ?_)
      have hQ := hQ x17 e_x17
      refine x_lstore_n (lv2 := [(3, .long x17), (6, .long x15), (0, .ref x), (2, .ref b), (5, .int x_5)]) d_X9_differs_131 rfl (by decide) rfl ?_
      obtain ⟨x18, e_x18⟩ : ∃ z : Int32, z = x_5 + (1 : Int32) := ⟨_, rfl⟩
      have hQ := hQ x18 e_x18
      refine x_iinc (v := x18) (lv2 := [(5, .int x18), (3, .long x17), (6, .long x15), (0, .ref x), (2, .ref b)]) 4 d_X9_differs_132 rfl (by rw [e_x18]; rfl) (by decide) rfl ?_
      refine x_goto (tgt := 90) d_X9_differs_135 (by decide) ?_
      refine x_sub [3, 4, 1, 0] (lv2 := [(0, .ref x), (2, .ref b), (3, .long x17), (5, .int x18)]) rfl ?_
      exact ih x17 x18 y_r y_p _ hX hF hQ
set_option maxHeartbeats 4000000 in
theorem jt_X9_differs_46 {G : GX} {l : Launch} {d x b : Nat} {wa w : HW} {t : RT} {c : RT} {r : RT} {p : RT} {ct : Int32} {kp : Nat → Option Nat} {kr : Nat → RT} {sl : Nat → Option Nat} {sr : Nat → RT} {a0 : Int32} {K : Int32 → RT → RT → Prop} (hd : 7 ≤ d) (hX : XB w x b t c r p ct kp kr sl sr) (hF : Out x wa w) (hQ : wp_X6_copyProblem c r (fun (s1 : RT) => wp_X9_put 3 (s1.1 12) (0 : Int32) a0 (fun (f3 : Nat → Int32) => ∀ s4 : RT, s4 = rI s1 12 f3 → wp_X6_restart s4 (fun (s6 : RT) => wp_X4_endTime c (fun (r8 : Int32) => wp_X7_advance p s6 r8 (fun (s9 : RT) (s10 : RT) => ∃ m : Nat, lp_X9_differs_90 t c ct kp kr sl sr a0 K m (0 : Int64) (0 : Int32) s10 s9)))))) : X G l m_X9_differs d 19 8122 19 8122 46 [(2, .ref b), (0, .ref x), (1, .int a0)] [] w (fun r9 w2 => ∃ (r1 : Int32), ∃ (z_r : RT), ∃ (z_p : RT), r9 = some (.int r1) ∧ XW w2 x t c z_r z_p ct kp kr sl sr ∧ Out x wa w2 ∧ K r1 z_r z_p) := by
  have hlb := hX.lb
  refine x_aload_n 0 d_X9_differs_46 rfl rfl ?_
  refine x_aload_n 1 d_X9_differs_47 rfl rfl ?_
  refine x_getf 1 gf_X9_19 hX.1.1 rfl d_X9_differs_48 ?_
  have hsp := sp_X6_copyProblem (G := G) (l := l) (w := w) (b := (x + 4)) (t := c) (a := b) (s := r) (d := d - 1) (by omega) (by omega) hQ
  rw [has_eq hX.hC, has_eq hX.hR] at hsp
  refine x_invV (rest := []) (d' := d - 1) (mc' := 0) (ms' := 0) [.ref (x + 4)] k_X6_copyProblem lk_X9_213 (hX.hR 0 (by decide)) rfl rfl rfl (Nat.le_of_ble_eq_true rfl) (by omega) (Nat.le_of_ble_eq_true rfl) (Nat.le_of_ble_eq_true rfl) d_X9_differs_51 (hsp.mono (fun r w2 hr => ?_))
  obtain ⟨s1, rfl, rfl, hQ⟩ := hr
  have hF := (out_putL (b := b) (n := 19) (g := shS b s1) hF hlb)
  have hX := (hX.setR (z := s1))
  generalize put w b 19 (shS b s1) = w2 at hX hF ⊢
  refine x_aload_n 0 d_X9_differs_54 rfl rfl ?_
  refine x_getfN 3 gf_X9_140 (hX.hR 0 (by decide)) rfl d_X9_differs_55 ?_
  refine x_iconst (v := (0 : Int32)) d_X9_differs_58 (by decide) ?_
  refine x_iload_n 2 d_X9_differs_59 rfl rfl ?_
  refine x_invS (rest := []) (d' := d - 1) (mc' := 0) (ms' := 0) [.ref (b + 12), .int (0 : Int32), .int a0] k_X9_put lk_X9_108 rfl rfl (Nat.le_of_ble_eq_true rfl) (by omega) (Nat.le_of_ble_eq_true rfl) (Nat.le_of_ble_eq_true rfl) d_X9_differs_60 ((spa_X9_put (w := w2) (d := d - 1) (by omega) (hX.hR 12 (by decide)) hQ).mono (fun r w2 hr => ?_))
  obtain ⟨f3, rfl, rfl, hQ⟩ := hr
  obtain ⟨s4, e_s4⟩ : ∃ z : RT, z = rI s1 12 f3 := ⟨_, rfl⟩
  have hQ := hQ s4 e_s4
  refine X.world (w2 := put w2 b 19 (shS b s4)) (by have h9 := sS_12 (w := w2) (a := b) (s := s1) (f := f3); rw [has_eq hX.hR] at h9; rw [e_s4]; exact h9) ?_
  have hF := out_putL (b := b) (n := 19) (g := shS b s4) hF hlb
  have hX := hX.setR (z := s4)
  generalize put w2 b 19 (shS b s4) = w5 at hX hF ⊢
  refine x_aload_n 0 d_X9_differs_63 rfl rfl ?_
  have hsp := sp_X6_restart (G := G) (l := l) (w := w5) (a := b) (s := s4) (d := d - 1) (by omega) hQ
  rw [has_eq hX.hR] at hsp
  refine x_invV (rest := []) (d' := d - 1) (mc' := 0) (ms' := 0) [] k_X6_restart lk_X9_81 (hX.hR 0 (by decide)) rfl rfl rfl (Nat.le_of_ble_eq_true rfl) (by omega) (Nat.le_of_ble_eq_true rfl) (Nat.le_of_ble_eq_true rfl) d_X9_differs_64 (hsp.mono (fun r w2 hr => ?_))
  obtain ⟨s6, rfl, rfl, hQ⟩ := hr
  have hF := (out_putL (b := b) (n := 19) (g := shS b s6) hF hlb)
  have hX := (hX.setR (z := s6))
  generalize put w5 b 19 (shS b s6) = w7 at hX hF ⊢
  refine x_aload_n 1 d_X9_differs_67 rfl rfl ?_
  refine x_getf 5 gf_X9_37 hX.1.1 rfl d_X9_differs_68 ?_
  refine x_aload_n 0 d_X9_differs_71 rfl rfl ?_
  refine x_aload_n 1 d_X9_differs_72 rfl rfl ?_
  refine x_getf 1 gf_X9_19 hX.1.1 rfl d_X9_differs_73 ?_
  refine x_getfN 5 gf_X9_165 (hX.hC 0 (by decide)) rfl d_X9_differs_76 ?_
  have hsp := sp_X4_endTime (G := G) (l := l) (w := w7) (a := (x + 4)) (s := c) (d := d - 1) (by omega) hQ
  rw [has_eq hX.hC] at hsp
  refine x_invV (rest := [.ref b, .ref (x + 26)]) (d' := d - 1) (mc' := 0) (ms' := 0) [] k_X4_endTime lk_X9_169 (hX.hC 17 (by decide)) rfl rfl rfl (Nat.le_of_ble_eq_true rfl) (by omega) (Nat.le_of_ble_eq_true rfl) (Nat.le_of_ble_eq_true rfl) d_X9_differs_79 (hsp.mono (fun r w2 hr => ?_))
  obtain ⟨r8, rfl, rfl, hQ⟩ := hr
  have hsp := sp_X7_advance (G := G) (l := l) (w := w2) (b := (x + 26)) (p := p) (a := b) (s := s6) (d := d - 1) (by omega) (by omega) hQ
  rw [has_eq hX.hP, has_eq hX.hR] at hsp
  refine x_invV (rest := []) (d' := d - 1) (mc' := 0) (ms' := 0) [.ref b, .int r8] k_X7_advance lk_X9_174 (hX.hP 0 (by decide)) rfl rfl rfl (Nat.le_of_ble_eq_true rfl) (by omega) (Nat.le_of_ble_eq_true rfl) (Nat.le_of_ble_eq_true rfl) d_X9_differs_82 (hsp.mono (fun r w2 hr => ?_))
  obtain ⟨s9, s10, rfl, rfl, hQ⟩ := hr
  have hF := (out_putL (b := b) (n := 19) (g := shS b s10) (hF.put (a := (x + 26)) (n := 7) (g := shP (x + 26) s9) (by omega) (by omega)) hlb)
  have hX := ((hX.setP (z := s9)).setR (z := s10))
  generalize put (put w2 (x + 26) 7 (shP (x + 26) s9)) b 19 (shS b s10) = w11 at hX hF ⊢
  refine x_lconst (v := (0 : Int64)) d_X9_differs_85 (by decide) ?_
  refine x_lstore_n (lv2 := [(3, .long (0 : Int64)), (2, .ref b), (0, .ref x), (1, .int a0)]) d_X9_differs_86 rfl (by decide) rfl ?_
  refine x_iconst (v := (0 : Int32)) d_X9_differs_87 (by decide) ?_
  refine x_istore (lv2 := [(5, .int (0 : Int32)), (3, .long (0 : Int64)), (2, .ref b), (0, .ref x), (1, .int a0)]) d_X9_differs_88 (by decide) rfl ?_
  refine x_sub [3, 2, 1, 0] (lv2 := [(0, .ref x), (2, .ref b), (3, .long (0 : Int64)), (5, .int (0 : Int32))]) rfl ?_
  obtain ⟨m, hQ⟩ := hQ
  exact jt_X9_differs_90 hd m (0 : Int64) (0 : Int32) s10 s9 _ hX hF hQ
def wp_X9_differs (t : RT) (c : RT) (r : RT) (p : RT) (ct : Int32) (kp : Nat → Option Nat) (kr : Nat → RT) (sl : Nat → Option Nat) (sr : Nat → RT) (a0 : Int32) (K : Int32 → RT → RT → Prop) : Prop := wp_X9_pickRo 3 fLi (0 : Int32) (fun (r1 : Int32) => wp_X9_pickRo 3 fMi (0 : Int32) (fun (r2 : Int32) => wp_X9_isWithin a0 r1 r2 (fun (r3 : Int32) => ((¬ r3 = (0 : Int32) → wp_X6_copyProblem c r (fun (s1 : RT) => wp_X9_put 3 (s1.1 12) (0 : Int32) a0 (fun (f3 : Nat → Int32) => ∀ s4 : RT, s4 = rI s1 12 f3 → wp_X6_restart s4 (fun (s6 : RT) => wp_X4_endTime c (fun (r8 : Int32) => wp_X7_advance p s6 r8 (fun (s9 : RT) (s10 : RT) => ∃ m : Nat, lp_X9_differs_90 t c ct kp kr sl sr a0 K m (0 : Int64) (0 : Int32) s10 s9)))))) ∧ (r3 = (0 : Int32) → K (-2000000001 : Int32) r p)))))
set_option maxHeartbeats 4000000 in
theorem sp_X9_differs {G : GX} {l : Launch} {d x : Nat} {w : HW} {t : RT} {c : RT} {r : RT} {p : RT} {ct : Int32} {kp : Nat → Option Nat} {kr : Nat → RT} {sl : Nat → Option Nat} {sr : Nat → RT} {a0 : Int32} {K : Int32 → RT → RT → Prop} (hd : 7 ≤ d) (hX : XW w x t c r p ct kp kr sl sr) (hQ : wp_X9_differs t c r p ct kp kr sl sr a0 K) : Sp G l m_X9_differs d 19 8122 [.ref x, .int a0] w (fun r9 w2 => ∃ (r1 : Int32), ∃ (z_r : RT), ∃ (z_p : RT), r9 = some (.int r1) ∧ XW w2 x t c z_r z_p ct kp kr sl sr ∧ Out x w w2 ∧ K r1 z_r z_p) := by
  refine Sp.ofX k_X9_differs.1.1 (Nat.le_of_ble_eq_true rfl) ?_
  refine X.lv (lv2 := [(0, .ref x), (1, .int a0)]) rfl ?_
  have hF : Out x w w := Out.rf
  refine x_iload_n 1 d_X9_differs_0 rfl rfl ?_
  refine x_gets (gL G) "SETTING_LEAST" (fun U h => h.2.2.1) sl_X9_134 d_X9_differs_1 ?_
  refine x_iconst (v := (0 : Int32)) d_X9_differs_4 (by decide) ?_
  refine x_invS (rest := [.int a0]) (d' := d - 1) (mc' := 0) (ms' := 0) [.ref (gL G), .int (0 : Int32)] k_X9_pick lk_X9_88 rfl rfl (Nat.le_of_ble_eq_true rfl) (by omega) (Nat.le_of_ble_eq_true rfl) (Nat.le_of_ble_eq_true rfl) d_X9_differs_5 ((sp_X9_pickRo (w := w) (d := d - 1) (by omega) roLeast hQ).mono (fun r w2 hr => ?_))
  obtain ⟨r1, rfl, rfl, hQ⟩ := hr
  refine x_gets (gM G) "SETTING_MOST" (fun U h => h.2.2.2.1) sl_X9_137 d_X9_differs_8 ?_
  refine x_iconst (v := (0 : Int32)) d_X9_differs_11 (by decide) ?_
  refine x_invS (rest := [.int r1, .int a0]) (d' := d - 1) (mc' := 0) (ms' := 0) [.ref (gM G), .int (0 : Int32)] k_X9_pick lk_X9_88 rfl rfl (Nat.le_of_ble_eq_true rfl) (by omega) (Nat.le_of_ble_eq_true rfl) (Nat.le_of_ble_eq_true rfl) d_X9_differs_12 ((sp_X9_pickRo (w := w2) (d := d - 1) (by omega) roMost hQ).mono (fun r w2 hr => ?_))
  obtain ⟨r2, rfl, rfl, hQ⟩ := hr
  refine x_invS (rest := []) (d' := d - 1) (mc' := 0) (ms' := 0) [.int a0, .int r1, .int r2] k_X9_isWithin lk_X9_41 rfl rfl (Nat.le_of_ble_eq_true rfl) (by omega) (Nat.le_of_ble_eq_true rfl) (Nat.le_of_ble_eq_true rfl) d_X9_differs_15 ((sp_X9_isWithin (w := w2) (d := d - 1) (by omega) hQ).mono (fun r w2 hr => ?_))
  obtain ⟨r3, rfl, rfl, hQ⟩ := hr
  refine x_if_ne (tgt := 24) d_X9_differs_18 (by decide) (fun c_18_4 => ?_) (fun c_18_4 => ?_)
  · have hQ := hQ.1 c_18_4
    cases htv : trv w2 x with
    | null =>
      obtain ⟨er, hXB⟩ := XB.make hX htv
      have hX1 := hX.1
      rw [htv] at hX1
      have h2 := hX.h2
      refine x_aload_n 0 d_X9_differs_24 rfl rfl ?_
      refine x_getf 4 gf_X9_210 hX1 rfl d_X9_differs_25 ?_
      refine x_astoreN_n (lv2 := [(2, .null), (0, .ref x), (1, .int a0)]) d_X9_differs_28 rfl (by decide) rfl ?_
      refine x_aloadN_n 0 d_X9_differs_29 rfl rfl ?_
      refine x_ifnonnullN d_X9_differs_30 ?_
      refine x_new [.null, .null, .null, .null, .null, .null] cl_X9_16 (lt_s (lt_s (lt_s (lt_s (lt_s (lt_s lt_0 rfl) rfl) rfl) rfl) rfl) rfl) (Nat.le_of_ble_eq_true rfl) (Nat.le_of_ble_eq_true rfl) d_X9_differs_33 ?_
      refine X.world (w2 := ex w2 w2.2 [cO 6 [.null, .null, .null, .null, .null, .null]]) (ex_one rfl) ?_
      refine x_dup d_X9_differs_36 rfl ?_
      refine x_invIN (rest := [.ref w2.2]) (d' := d - 1) (mc' := 18) (ms' := 8116) w2.2 [] "LagSolver" k_X6_init lk_X9_18 rfl rfl (Nat.le_of_ble_eq_true rfl) (by omega) (Nat.le_of_ble_eq_true rfl) (Nat.le_of_ble_eq_true rfl) d_X9_differs_37 ((spc_X6_init (d := d - 1) (by omega)).mono (fun r w2 hr => ?_))
      obtain ⟨rfl, rfl⟩ := hr
      refine X.world exS ?_
      refine x_astore_n (lv2 := [(2, .ref (w2.2)), (0, .ref x), (1, .int a0)]) d_X9_differs_40 rfl (by decide) rfl ?_
      refine x_aload_n 1 d_X9_differs_41 rfl rfl ?_
      refine x_aload_n 0 d_X9_differs_42 rfl rfl ?_
      have hX2 : (put ((w2.1, w2.2 + 19) : HW) w2.2 19 (shS w2.2 s0S)).1 x = some (ob9 x .null) := (put_q (w := (w2.1, w2.2 + 19)) (by omega)).trans hX1
      refine x_putf 4 (.object "LagSolver$State") pf_X9_210 hX2 rfl rfl (Nat.le_of_ble_eq_true rfl) d_X9_differs_43 ?_
      refine X.world (w2 := hset (put (w2.1, w2.2 + 19) w2.2 19 (shS w2.2 s0S)) x (ob9 x (.ref w2.2))) rfl ?_
      have hF1 := out_grow (g := shS w2.2 s0S) hF h2
      have hF2 := hF1.hset (a := x) (c := ob9 x (.ref w2.2)) (by omega) (by omega)
      exact jt_X9_differs_46 hd hXB hF2 hQ
    | ref b =>
      have hX1 := hX.1
      rw [htv] at hX1
      refine x_aload_n 0 d_X9_differs_24 rfl rfl ?_
      refine x_getf 4 gf_X9_210 hX1 rfl d_X9_differs_25 ?_
      refine x_astore_n (lv2 := [(2, .ref b), (0, .ref x), (1, .int a0)]) d_X9_differs_28 rfl (by decide) rfl ?_
      refine x_aload_n 0 d_X9_differs_29 rfl rfl ?_
      refine x_ifnonnull (tgt := 46) d_X9_differs_30 (by decide) ?_
      refine X.widen (k2 := 19) (n2 := 8122) (Nat.le_of_ble_eq_true rfl) (Nat.le_of_ble_eq_true rfl) (Nat.le_of_ble_eq_true rfl) (Nat.le_of_ble_eq_true rfl) ?_
      exact jt_X9_differs_46 hd ⟨hX, htv⟩ hF hQ
    | _ =>
      exfalso
      rcases hX.hR with ⟨h1, _⟩ | ⟨b0, h1, _⟩ <;> rw [htv] at h1 <;> cases h1
  · have hQ := hQ.2 c_18_4
    refine x_ldc (v := (-2000000001 : Int32)) kc_X9_45 d_X9_differs_21 ?_
    exact x_iret (retI d_X9_differs_23 rfl) ⟨_, _, _, rfl, hX, hF, hQ⟩
