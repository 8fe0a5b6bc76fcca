def wp_X9_pickRo (z : Nat) (f : Nat → Int32) (i : Int32) (K : Int32 → Prop) : Prop := ((i < (0 : Int32) → K (0 : Int32)) ∧ (¬ i < (0 : Int32) → (((nI z) ≤ i → K (0 : Int32)) ∧ (¬ (nI z) ≤ i → vp_in i z ∧ K (f i.toNatClampNeg)))))
set_option maxHeartbeats 4000000 in
theorem sp_X9_pickRo {G : GX} {l : Launch} {d : Nat} {w : HW} {a : Nat} {z : Nat} {f : Nat → Int32} {i : Int32} {K : Int32 → Prop} (hd : 0 ≤ d) (ha_a : RoA G a z f) (hQ : wp_X9_pickRo z f i K) : Sp G l m_X9_pick d 0 0 [.ref a, .int i] (w) (fun r w2 => ∃ (r1 : Int32), r = some (.int r1) ∧ w2 = w ∧ K r1) := by
  refine Sp.ofX k_X9_pick.1.1 (Nat.le_of_ble_eq_true rfl) ?_
  refine X.lv (lv2 := [(0, .ref a), (1, .int i)]) rfl ?_
  refine x_aload_n 0 d_X9_pick_0 rfl rfl ?_
  refine x_ifnull d_X9_pick_1 ?_
  refine x_iload_n 1 d_X9_pick_4 rfl rfl ?_
  refine x_if_lt (tgt := 20) d_X9_pick_5 (by decide) (fun c_5_1 => ?_) (fun c_5_1 => ?_)
  · have hQ := hQ.1 c_5_1
    refine x_iconst (v := (0 : Int32)) d_X9_pick_20 (by decide) ?_
    exact x_iret (retI d_X9_pick_21 rfl) ⟨_, rfl, rfl, hQ⟩
  · have hQ := hQ.2 c_5_1
    refine x_iload_n 1 d_X9_pick_8 rfl rfl ?_
    refine x_aload_n 0 d_X9_pick_9 rfl rfl ?_
    refine x_alenRo ha_a d_X9_pick_10 ?_
    refine x_icmp_ge (tgt := 20) d_X9_pick_11 (by decide) (fun c_11_2 => ?_) (fun c_11_2 => ?_)
    · have hQ := hQ.1 c_11_2
      refine x_iconst (v := (0 : Int32)) d_X9_pick_20 (by decide) ?_
      exact x_iret (retI d_X9_pick_21 rfl) ⟨_, rfl, rfl, hQ⟩
    · have hQ := hQ.2 c_11_2
      refine x_aload_n 0 d_X9_pick_14 rfl rfl ?_
      refine x_iload_n 1 d_X9_pick_15 rfl rfl ?_
      have hN := hQ.1
      have hQ := hQ.2
      refine x_ialdRo ha_a hN d_X9_pick_16 ?_
      refine x_goto (tgt := 21) d_X9_pick_17 (by decide) ?_
      exact x_iret (retI d_X9_pick_21 rfl) ⟨_, rfl, rfl, hQ⟩
def wp_X9_type (t : RT) (c : RT) (r : RT) (p : RT) (ct : Int32) (kp : Nat → Option Nat) (kr : Nat → RT) (sl : Nat → Option Nat) (sr : Nat → RT) (a0 : Int32) (K : Int32 → RT → Prop) : Prop := wp_X9_isWithin a0 (33 : Int32) (126 : Int32) (fun (r1 : Int32) => ((¬ r1 = (0 : Int32) → wp_X8_append t a0 (fun (r3 : Int32) (s4 : RT) => ((r3 = (0 : Int32) → K (-2000000003 : Int32) s4) ∧ (¬ r3 = (0 : Int32) → K (s4.2.2 1) s4)))) ∧ (r1 = (0 : Int32) → K (-2000000001 : Int32) t)))
set_option maxHeartbeats 4000000 in
theorem sp_X9_type {G : GX} {l : Launch} {d x : Nat} {w : HW} {t : RT} {c : RT} {r : RT} {p : RT} {ct : Int32} {kp : Nat → Option Nat} {kr : Nat → RT} {sl : Nat → Option Nat} {sr : Nat → RT} {a0 : Int32} {K : Int32 → RT → Prop} (hd : 2 ≤ d) (hX : XW w x t c r p ct kp kr sl sr) (hQ : wp_X9_type t c r p ct kp kr sl sr a0 K) : Sp G l m_X9_type d 0 0 [.ref x, .int a0] w (fun r9 w2 => ∃ (r1 : Int32), ∃ (z_t : RT), r9 = some (.int r1) ∧ XW w2 x z_t c r p ct kp kr sl sr ∧ Out x w w2 ∧ K r1 z_t) := by
  refine Sp.ofX k_X9_type.1.1 (Nat.le_of_ble_eq_true rfl) ?_
  refine X.lv (lv2 := [(0, .ref x), (1, .int a0)]) rfl ?_
  have hF : Out x w w := Out.rf
  refine x_iload_n 1 d_X9_type_0 rfl rfl ?_
  refine x_bipush (v := (33 : Int32)) d_X9_type_1 (by decide) ?_
  refine x_bipush (v := (126 : Int32)) d_X9_type_3 (by decide) ?_
  refine x_invS (rest := []) (d' := d - 1) (mc' := 0) (ms' := 0) [.int a0, .int (33 : Int32), .int (126 : Int32)] k_X9_isWithin lk_X9_41 rfl rfl (Nat.le_of_ble_eq_true rfl) (by omega) (Nat.le_of_ble_eq_true rfl) (Nat.le_of_ble_eq_true rfl) d_X9_type_5 ((sp_X9_isWithin (w := w) (d := d - 1) (by omega) hQ).mono (fun r w2 hr => ?_))
  obtain ⟨r1, rfl, rfl, hQ⟩ := hr
  refine x_if_ne (tgt := 14) d_X9_type_8 (by decide) (fun c_8_2 => ?_) (fun c_8_2 => ?_)
  · have hQ := hQ.1 c_8_2
    refine x_aload_n 0 d_X9_type_14 rfl rfl ?_
    refine x_getf 0 gf_X9_12 hX.1 rfl d_X9_type_15 ?_
    refine x_iload_n 1 d_X9_type_18 rfl rfl ?_
    have hsp := sp_X8_append (G := G) (l := l) (w := w2) (a := (x + 1)) (s := t) (d := d - 1) (by omega) hQ
    rw [has_eq hX.hT] at hsp
    refine x_invV (rest := []) (d' := d - 1) (mc' := 0) (ms' := 0) [.int a0] k_X8_append lk_X9_46 (hX.hT 0 (by decide)) rfl rfl rfl (Nat.le_of_ble_eq_true rfl) (by omega) (Nat.le_of_ble_eq_true rfl) (Nat.le_of_ble_eq_true rfl) d_X9_type_19 (hsp.mono (fun r w2 hr => ?_))
    obtain ⟨r3, s4, rfl, rfl, hQ⟩ := hr
    have hF := (hF.put (a := (x + 1)) (n := 3) (g := shT (x + 1) s4) (by omega) (by omega))
    have hX := (hX.setT (z := s4))
    generalize put w2 (x + 1) 3 (shT (x + 1) s4) = w5 at hX hF ⊢
    refine x_if_eq (tgt := 35) d_X9_type_22 (by decide) (fun c_22_6 => ?_) (fun c_22_6 => ?_)
    · have hQ := hQ.1 c_22_6
      refine x_ldc (v := (-2000000003 : Int32)) kc_X9_54 d_X9_type_35 ?_
      exact x_iret (retI d_X9_type_37 rfl) ⟨_, _, rfl, hX, hF, hQ⟩
    · have hQ := hQ.2 c_22_6
      refine x_aload_n 0 d_X9_type_25 rfl rfl ?_
      refine x_getf 0 gf_X9_12 hX.1 rfl d_X9_type_26 ?_
      refine x_getfN 1 gf_X9_50 (hX.hT 0 (by decide)) rfl d_X9_type_29 ?_
      refine x_goto (tgt := 37) d_X9_type_32 (by decide) ?_
      exact x_iret (retI d_X9_type_37 rfl) ⟨_, _, rfl, hX, hF, hQ⟩
  · have hQ := hQ.2 c_8_2
    refine x_ldc (v := (-2000000001 : Int32)) kc_X9_45 d_X9_type_11 ?_
    exact x_iret (retI d_X9_type_13 rfl) ⟨_, _, rfl, hX, hF, hQ⟩
def wp_X9_wipe (t : RT) (c : RT) (r : RT) (p : RT) (ct : Int32) (kp : Nat → Option Nat) (kr : Nat → RT) (sl : Nat → Option Nat) (sr : Nat → RT) (K : Int32 → RT → Prop) : Prop := ∀ x1 : Int32, x1 = (t.2.2 1) → wp_X8_empty t (fun (s2 : RT) => K x1 s2)
set_option maxHeartbeats 4000000 in
theorem sp_X9_wipe {G : GX} {l : Launch} {d x : Nat} {w : HW} {t : RT} {c : RT} {r : RT} {p : RT} {ct : Int32} {kp : Nat → Option Nat} {kr : Nat → RT} {sl : Nat → Option Nat} {sr : Nat → RT} {K : Int32 → RT → Prop} (hd : 1 ≤ d) (hX : XW w x t c r p ct kp kr sl sr) (hQ : wp_X9_wipe t c r p ct kp kr sl sr K) : Sp G l m_X9_wipe d 0 0 [.ref x] w (fun r9 w2 => ∃ (r1 : Int32), ∃ (z_t : RT), r9 = some (.int r1) ∧ XW w2 x z_t c r p ct kp kr sl sr ∧ Out x w w2 ∧ K r1 z_t) := by
  refine Sp.ofX k_X9_wipe.1.1 (Nat.le_of_ble_eq_true rfl) ?_
  refine X.lv (lv2 := [(0, .ref x)]) rfl ?_
  have hF : Out x w w := Out.rf
  refine x_aload_n 0 d_X9_wipe_0 rfl rfl ?_
  refine x_getf 0 gf_X9_12 hX.1 rfl d_X9_wipe_1 ?_
  refine x_getfN 1 gf_X9_50 (hX.hT 0 (by decide)) rfl d_X9_wipe_4 ?_
  refine x_topi (fun x1 e_x1 => ?_)
  have hQ := hQ x1 e_x1
  refine x_istore_n (lv2 := [(1, .int x1), (0, .ref x)]) d_X9_wipe_7 rfl (by decide) rfl ?_
  refine x_aload_n 1 d_X9_wipe_8 rfl rfl ?_
  refine x_getf 0 gf_X9_12 hX.1 rfl d_X9_wipe_9 ?_
  have hsp := sp_X8_empty (G := G) (l := l) (w := w) (a := (x + 1)) (s := t) (d := d - 1) (by omega) hQ
  rw [has_eq hX.hT] at hsp
  refine x_invV (rest := []) (d' := d - 1) (mc' := 0) (ms' := 0) [] k_X8_empty lk_X9_55 (hX.hT 0 (by decide)) rfl rfl rfl (Nat.le_of_ble_eq_true rfl) (by omega) (Nat.le_of_ble_eq_true rfl) (Nat.le_of_ble_eq_true rfl) d_X9_wipe_12 (hsp.mono (fun r w2 hr => ?_))
  obtain ⟨s2, rfl, rfl, hQ⟩ := hr
  have hF := (hF.put (a := (x + 1)) (n := 3) (g := shT (x + 1) s2) (by omega) (by omega))
  have hX := (hX.setT (z := s2))
  generalize put w (x + 1) 3 (shT (x + 1) s2) = w3 at hX hF ⊢
  refine x_iload_n 0 d_X9_wipe_15 rfl rfl ?_
  exact x_iret (retI d_X9_wipe_16 rfl) ⟨_, _, rfl, hX, hF, hQ⟩
def wp_X9_fault (t : RT) (c : RT) (r : RT) (p : RT) (ct : Int32) (kp : Nat → Option Nat) (kr : Nat → RT) (sl : Nat → Option Nat) (sr : Nat → RT) (K : Int32 → RT → Prop) : Prop := wp_X8_read t (fun (r1 : Int32) (s2 : RT) => ((¬ r1 = (-1 : Int32) → K r1 s2) ∧ (r1 = (-1 : Int32) → K (-2000000004 : Int32) s2)))
set_option maxHeartbeats 4000000 in
theorem sp_X9_fault {G : GX} {l : Launch} {d x : Nat} {w : HW} {t : RT} {c : RT} {r : RT} {p : RT} {ct : Int32} {kp : Nat → Option Nat} {kr : Nat → RT} {sl : Nat → Option Nat} {sr : Nat → RT} {K : Int32 → RT → Prop} (hd : 69 ≤ d) (hX : XW w x t c r p ct kp kr sl sr) (hQ : wp_X9_fault t c r p ct kp kr sl sr K) : Sp G l m_X9_fault d 0 0 [.ref x] w (fun r9 w2 => ∃ (r1 : Int32), ∃ (z_t : RT), r9 = some (.int r1) ∧ XW w2 x z_t c r p ct kp kr sl sr ∧ Out x w w2 ∧ K r1 z_t) := by
  refine Sp.ofX k_X9_fault.1.1 (Nat.le_of_ble_eq_true rfl) ?_
  refine X.lv (lv2 := [(0, .ref x)]) rfl ?_
  have hF : Out x w w := Out.rf
  refine x_aload_n 0 d_X9_fault_0 rfl rfl ?_
  refine x_getf 0 gf_X9_12 hX.1 rfl d_X9_fault_1 ?_
  have hsp := sp_X8_read (G := G) (l := l) (w := w) (a := (x + 1)) (s := t) (d := d - 1) (by omega) hQ
  rw [has_eq hX.hT] at hsp
  refine x_invV (rest := []) (d' := d - 1) (mc' := 0) (ms' := 0) [] k_X8_read lk_X9_58 (hX.hT 0 (by decide)) rfl rfl rfl (Nat.le_of_ble_eq_true rfl) (by omega) (Nat.le_of_ble_eq_true rfl) (Nat.le_of_ble_eq_true rfl) d_X9_fault_4 (hsp.mono (fun r w2 hr => ?_))
  obtain ⟨r1, s2, rfl, rfl, hQ⟩ := hr
  have hF := (hF.put (a := (x + 1)) (n := 3) (g := shT (x + 1) s2) (by omega) (by omega))
  have hX := (hX.setT (z := s2))
  generalize put w (x + 1) 3 (shT (x + 1) s2) = w3 at hX hF ⊢
  refine x_istore_n (lv2 := [(1, .int r1), (0, .ref x)]) d_X9_fault_7 rfl (by decide) rfl ?_
  refine x_iload_n 0 d_X9_fault_8 rfl rfl ?_
  refine x_iconst (v := (-1 : Int32)) d_X9_fault_9 (by decide) ?_
  refine x_icmp_ne (tgt := 18) d_X9_fault_10 (by decide) (fun c_10_4 => ?_) (fun c_10_4 => ?_)
  · have hQ := hQ.1 c_10_4
    refine x_iload_n 0 d_X9_fault_18 rfl rfl ?_
    exact x_iret (retI d_X9_fault_19 rfl) ⟨_, _, rfl, hX, hF, hQ⟩
  · have hQ := hQ.2 c_10_4
    refine x_ldc (v := (-2000000004 : Int32)) kc_X9_62 d_X9_fault_13 ?_
    refine x_goto (tgt := 19) d_X9_fault_15 (by decide) ?_
    exact x_iret (retI d_X9_fault_19 rfl) ⟨_, _, rfl, hX, hF, hQ⟩
def wp_X9_lag (t : RT) (c : RT) (r : RT) (p : RT) (ct : Int32) (kp : Nat → Option Nat) (kr : Nat → RT) (sl : Nat → Option Nat) (sr : Nat → RT) (a0 : Int32) (a1 : Int32) (K : Int32 → Prop) : Prop := wp_X9_isDelay a0 (fun (r1 : Int32) => ((r1 = (0 : Int32) → K (-2000000001 : Int32)) ∧ (¬ r1 = (0 : Int32) → wp_X9_isWithin a1 (0 : Int32) (8000 : Int32) (fun (r3 : Int32) => ((¬ r3 = (0 : Int32) → wp_X3_lagAt c a0 a1 (fun (r5 : Int32) => K r5)) ∧ (r3 = (0 : Int32) → K (-2000000001 : Int32)))))))
set_option maxHeartbeats 4000000 in
theorem sp_X9_lag {G : GX} {l : Launch} {d x : Nat} {w : HW} {t : RT} {c : RT} {r : RT} {p : RT} {ct : Int32} {kp : Nat → Option Nat} {kr : Nat → RT} {sl : Nat → Option Nat} {sr : Nat → RT} {a0 : Int32} {a1 : Int32} {K : Int32 → Prop} (hd : 2 ≤ d) (hX : XW w x t c r p ct kp kr sl sr) (hQ : wp_X9_lag t c r p ct kp kr sl sr a0 a1 K) : Sp G l m_X9_lag d 0 0 [.ref x, .int a0, .int a1] w (fun r9 w2 => ∃ (r1 : Int32), r9 = some (.int r1) ∧ XW w2 x t c r p ct kp kr sl sr ∧ Out x w w2 ∧ K r1) := by
  refine Sp.ofX k_X9_lag.1.1 (Nat.le_of_ble_eq_true rfl) ?_
  refine X.lv (lv2 := [(0, .ref x), (1, .int a0), (2, .int a1)]) rfl ?_
  have hF : Out x w w := Out.rf
  refine x_iload_n 1 d_X9_lag_0 rfl rfl ?_
  refine x_invS (rest := []) (d' := d - 1) (mc' := 0) (ms' := 0) [.int a0] k_X9_isDelay lk_X9_96 rfl rfl (Nat.le_of_ble_eq_true rfl) (by omega) (Nat.le_of_ble_eq_true rfl) (Nat.le_of_ble_eq_true rfl) d_X9_lag_1 ((sp_X9_isDelay (w := w) (d := d - 1) (by omega) hQ).mono (fun r w2 hr => ?_))
  obtain ⟨r1, rfl, rfl, hQ⟩ := hr
  refine x_if_eq (tgt := 18) d_X9_lag_4 (by decide) (fun c_4_2 => ?_) (fun c_4_2 => ?_)
  · have hQ := hQ.1 c_4_2
    refine x_ldc (v := (-2000000001 : Int32)) kc_X9_45 d_X9_lag_18 ?_
    exact x_iret (retI d_X9_lag_20 rfl) ⟨_, rfl, hX, hF, hQ⟩
  · have hQ := hQ.2 c_4_2
    refine x_iload_n 2 d_X9_lag_7 rfl rfl ?_
    refine x_iconst (v := (0 : Int32)) d_X9_lag_8 (by decide) ?_
    refine x_sipush (v := (8000 : Int32)) d_X9_lag_9 (by decide) ?_
    refine x_invS (rest := []) (d' := d - 1) (mc' := 0) (ms' := 0) [.int a1, .int (0 : Int32), .int (8000 : Int32)] k_X9_isWithin lk_X9_41 rfl rfl (Nat.le_of_ble_eq_true rfl) (by omega) (Nat.le_of_ble_eq_true rfl) (Nat.le_of_ble_eq_true rfl) d_X9_lag_12 ((sp_X9_isWithin (w := w2) (d := d - 1) (by omega) hQ).mono (fun r w2 hr => ?_))
    obtain ⟨r3, rfl, rfl, hQ⟩ := hr
    refine x_if_ne (tgt := 21) d_X9_lag_15 (by decide) (fun c_15_4 => ?_) (fun c_15_4 => ?_)
    · have hQ := hQ.1 c_15_4
      refine x_aload_n 0 d_X9_lag_21 rfl rfl ?_
      refine x_getf 1 gf_X9_19 hX.1 rfl d_X9_lag_22 ?_
      refine x_getfN 1 gf_X9_99 (hX.hC 0 (by decide)) rfl d_X9_lag_25 ?_
      refine x_iload_n 1 d_X9_lag_28 rfl rfl ?_
      refine x_iload_n 2 d_X9_lag_29 rfl rfl ?_
      have hsp := sp_X3_lagAt (G := G) (l := l) (w := w2) (a := (x + 4)) (s := c) (d := d - 1) (by omega) hQ
      rw [has_eq hX.hC] at hsp
      refine x_invV (rest := []) (d' := d - 1) (mc' := 0) (ms' := 0) [.int a0, .int a1] k_X3_lagAt lk_X9_143 (hX.hC 5 (by decide)) rfl rfl rfl (Nat.le_of_ble_eq_true rfl) (by omega) (Nat.le_of_ble_eq_true rfl) (Nat.le_of_ble_eq_true rfl) d_X9_lag_30 (hsp.mono (fun r w2 hr => ?_))
      obtain ⟨r5, rfl, rfl, hQ⟩ := hr
      exact x_iret (retI d_X9_lag_33 rfl) ⟨_, rfl, hX, hF, hQ⟩
    · have hQ := hQ.2 c_15_4
      refine x_ldc (v := (-2000000001 : Int32)) kc_X9_45 d_X9_lag_18 ?_
      exact x_iret (retI d_X9_lag_20 rfl) ⟨_, rfl, hX, hF, hQ⟩
def jp_X9_breakAt_44 (t : RT) (c : RT) (r : RT) (p : RT) (ct : Int32) (kp : Nat → Option Nat) (kr : Nat → RT) (sl : Nat → Option Nat) (sr : Nat → RT) (a0 : Int32) (a1 : Int32) (K : Int32 → Prop) : Prop := ((a1 = (0 : Int32) → wp_X9_pick 40 (c.1 14) a0 (fun (r6 : Int32) => K r6)) ∧ (¬ a1 = (0 : Int32) → ((a1 = (1 : Int32) → wp_X9_pick 40 (c.1 15) a0 (fun (r7 : Int32) => K r7)) ∧ (¬ a1 = (1 : Int32) → (wp_X9_pick 40 (c.1 16) a0 (fun (r8 : Int32) => K r8))))))
set_option maxHeartbeats 4000000 in
theorem jt_X9_breakAt_44 {G : GX} {l : Launch} {d x : Nat} {wa : HW} {t : RT} {c : RT} {r : RT} {p : RT} {ct : Int32} {kp : Nat → Option Nat} {kr : Nat → RT} {sl : Nat → Option Nat} {sr : Nat → RT} {a0 : Int32} {a1 : Int32} {K : Int32 → Prop} (hd : 1 ≤ d) (w : HW) (hX : XW w x t c r p ct kp kr sl sr) (hF : Out x wa w) (hQ : jp_X9_breakAt_44 t c r p ct kp kr sl sr a0 a1 K) : X G l m_X9_breakAt d 0 0 0 0 44 [(1, .int a0), (2, .int a1), (3, .ref ((x + 4) + 13))] [] w (fun r9 w2 => ∃ (r1 : Int32), r9 = some (.int r1) ∧ XW w2 x t c r p ct kp kr sl sr ∧ Out x wa w2 ∧ K r1) := by
  refine x_iload_n 1 d_X9_breakAt_44 rfl rfl ?_
  by_cases c_45_0 : a1 = (0 : Int32)
  · have hQ := hQ.1 c_45_0
    refine x_lookup (off := (27 : Int)) (tgt := 72) d_X9_breakAt_45 (by decide) (by rw [c_45_0]; rfl) (by decide) ?_
    refine x_aload_n 2 d_X9_breakAt_72 rfl rfl ?_
    refine x_getfN 0 gf_X9_156 (hX.hC 13 (by decide)) rfl d_X9_breakAt_73 ?_
    refine x_iload_n 0 d_X9_breakAt_76 rfl rfl ?_
    refine x_invS (rest := []) (d' := d - 1) (mc' := 0) (ms' := 0) [.ref ((x + 4) + 14), .int a0] k_X9_pick lk_X9_88 rfl rfl (Nat.le_of_ble_eq_true rfl) (by omega) (Nat.le_of_ble_eq_true rfl) (Nat.le_of_ble_eq_true rfl) d_X9_breakAt_77 ((sp_X9_pick (w := w) (d := d - 1) (by omega) (hX.hC 14 (by decide)) hQ).mono (fun r w2 hr => ?_))
    obtain ⟨r6, rfl, rfl, hQ⟩ := hr
    exact x_iret (retI d_X9_breakAt_80 rfl) ⟨_, rfl, hX, hF, hQ⟩
  · have hQ := hQ.2 c_45_0
    by_cases c_45_1 : a1 = (1 : Int32)
    · have hQ := hQ.1 c_45_1
      refine x_lookup (off := (36 : Int)) (tgt := 81) d_X9_breakAt_45 (by decide) (by rw [c_45_1]; rfl) (by decide) ?_
      refine x_aload_n 2 d_X9_breakAt_81 rfl rfl ?_
      refine x_getfN 1 gf_X9_159 (hX.hC 13 (by decide)) rfl d_X9_breakAt_82 ?_
      refine x_iload_n 0 d_X9_breakAt_85 rfl rfl ?_
      refine x_invS (rest := []) (d' := d - 1) (mc' := 0) (ms' := 0) [.ref ((x + 4) + 15), .int a0] k_X9_pick lk_X9_88 rfl rfl (Nat.le_of_ble_eq_true rfl) (by omega) (Nat.le_of_ble_eq_true rfl) (Nat.le_of_ble_eq_true rfl) d_X9_breakAt_86 ((sp_X9_pick (w := w) (d := d - 1) (by omega) (hX.hC 15 (by decide)) hQ).mono (fun r w2 hr => ?_))
      obtain ⟨r7, rfl, rfl, hQ⟩ := hr
      exact x_iret (retI d_X9_breakAt_89 rfl) ⟨_, rfl, hX, hF, hQ⟩
    · have hQ := hQ.2 c_45_1
      refine x_lookup (off := (45 : Int)) (tgt := 90) d_X9_breakAt_45 (by decide) (by rw [show (_ : Array (Int × Int)).toList = _ from rfl]; rw [lv_osw c_45_0 (by decide)]; rw [lv_osw c_45_1 (by decide)]; rfl) (by decide) ?_
      refine x_aload_n 2 d_X9_breakAt_90 rfl rfl ?_
      refine x_getfN 2 gf_X9_162 (hX.hC 13 (by decide)) rfl d_X9_breakAt_91 ?_
      refine x_iload_n 0 d_X9_breakAt_94 rfl rfl ?_
      refine x_invS (rest := []) (d' := d - 1) (mc' := 0) (ms' := 0) [.ref ((x + 4) + 16), .int a0] k_X9_pick lk_X9_88 rfl rfl (Nat.le_of_ble_eq_true rfl) (by omega) (Nat.le_of_ble_eq_true rfl) (Nat.le_of_ble_eq_true rfl) d_X9_breakAt_95 ((sp_X9_pick (w := w) (d := d - 1) (by omega) (hX.hC 16 (by decide)) hQ).mono (fun r w2 hr => ?_))
      obtain ⟨r8, rfl, rfl, hQ⟩ := hr
      exact x_iret (retI d_X9_breakAt_98 rfl) ⟨_, rfl, hX, hF, hQ⟩
def wp_X9_breakAt (t : RT) (c : RT) (r : RT) (p : RT) (ct : Int32) (kp : Nat → Option Nat) (kr : Nat → RT) (sl : Nat → Option Nat) (sr : Nat → RT) (a0 : Int32) (a1 : Int32) (K : Int32 → Prop) : Prop := ((a0 < (0 : Int32) → K (-2000000001 : Int32)) ∧ (¬ a0 < (0 : Int32) → wp_X9_isWithin a1 (0 : Int32) (2 : Int32) (fun (r2 : Int32) => ((¬ r2 = (0 : Int32) → (((c.2.2 0) ≤ a0 → K (-2000000004 : Int32)) ∧ (¬ (c.2.2 0) ≤ a0 → ((¬ a0 = (0 : Int32) → jp_X9_breakAt_44 t c r p ct kp kr sl sr a0 a1 K ) ∧ (a0 = (0 : Int32) → ((¬ a1 = (2 : Int32) → jp_X9_breakAt_44 t c r p ct kp kr sl sr a0 a1 K ) ∧ (a1 = (2 : Int32) → K (-2000000004 : Int32)))))))) ∧ (r2 = (0 : Int32) → K (-2000000001 : Int32))))))
set_option maxHeartbeats 4000000 in
theorem sp_X9_breakAt {G : GX} {l : Launch} {d x : Nat} {w : HW} {t : RT} {c : RT} {r : RT} {p : RT} {ct : Int32} {kp : Nat → Option Nat} {kr : Nat → RT} {sl : Nat → Option Nat} {sr : Nat → RT} {a0 : Int32} {a1 : Int32} {K : Int32 → Prop} (hd : 1 ≤ d) (hX : XW w x t c r p ct kp kr sl sr) (hQ : wp_X9_breakAt t c r p ct kp kr sl sr a0 a1 K) : Sp G l m_X9_breakAt d 0 0 [.ref x, .int a0, .int a1] w (fun r9 w2 => ∃ (r1 : Int32), r9 = some (.int r1) ∧ XW w2 x t c r p ct kp kr sl sr ∧ Out x w w2 ∧ K r1) := by
  refine Sp.ofX k_X9_breakAt.1.1 (Nat.le_of_ble_eq_true rfl) ?_
  refine X.lv (lv2 := [(0, .ref x), (1, .int a0), (2, .int a1)]) rfl ?_
  have hF : Out x w w := Out.rf
  refine x_iload_n 1 d_X9_breakAt_0 rfl rfl ?_
  refine x_if_lt (tgt := 13) d_X9_breakAt_1 (by decide) (fun c_1_1 => ?_) (fun c_1_1 => ?_)
  · have hQ := hQ.1 c_1_1
    refine x_ldc (v := (-2000000001 : Int32)) kc_X9_45 d_X9_breakAt_13 ?_
    exact x_iret (retI d_X9_breakAt_15 rfl) ⟨_, rfl, hX, hF, hQ⟩
  · have hQ := hQ.2 c_1_1
    refine x_iload_n 2 d_X9_breakAt_4 rfl rfl ?_
    refine x_iconst (v := (0 : Int32)) d_X9_breakAt_5 (by decide) ?_
    refine x_iconst (v := (2 : Int32)) d_X9_breakAt_6 (by decide) ?_
    refine x_invS (rest := []) (d' := d - 1) (mc' := 0) (ms' := 0) [.int a1, .int (0 : Int32), .int (2 : Int32)] k_X9_isWithin lk_X9_41 rfl rfl (Nat.le_of_ble_eq_true rfl) (by omega) (Nat.le_of_ble_eq_true rfl) (Nat.le_of_ble_eq_true rfl) d_X9_breakAt_7 ((sp_X9_isWithin (w := w) (d := d - 1) (by omega) hQ).mono (fun r w2 hr => ?_))
    obtain ⟨r2, rfl, rfl, hQ⟩ := hr
    refine x_if_ne (tgt := 16) d_X9_breakAt_10 (by decide) (fun c_10_3 => ?_) (fun c_10_3 => ?_)
    · have hQ := hQ.1 c_10_3
      refine x_aload_n 0 d_X9_breakAt_16 rfl rfl ?_
      refine x_getf 1 gf_X9_19 hX.1 rfl d_X9_breakAt_17 ?_
      refine x_getfN 4 gf_X9_147 (hX.hC 0 (by decide)) rfl d_X9_breakAt_20 ?_
      refine x_astore_n (lv2 := [(3, .ref ((x + 4) + 13)), (0, .ref x), (1, .int a0), (2, .int a1)]) d_X9_breakAt_23 rfl (by decide) rfl ?_
      refine x_iload_n 2 d_X9_breakAt_24 rfl rfl ?_
      refine x_aload_n 0 d_X9_breakAt_25 rfl rfl ?_
      refine x_getfN 3 gf_X9_151 (hX.hC 13 (by decide)) rfl d_X9_breakAt_26 ?_
      refine x_icmp_ge (tgt := 41) d_X9_breakAt_29 (by decide) (fun c_29_4 => ?_) (fun c_29_4 => ?_)
      · have hQ := hQ.1 c_29_4
        refine x_ldc (v := (-2000000004 : Int32)) kc_X9_62 d_X9_breakAt_41 ?_
        exact x_iret (retI d_X9_breakAt_43 rfl) ⟨_, rfl, hX, hF, hQ⟩
      · have hQ := hQ.2 c_29_4
        refine x_iload_n 2 d_X9_breakAt_32 rfl rfl ?_
        refine x_if_ne (tgt := 44) d_X9_breakAt_33 (by decide) (fun c_33_5 => ?_) (fun c_33_5 => ?_)
        · have hQ := hQ.1 c_33_5
          refine x_sub [2, 3, 0] (lv2 := [(1, .int a0), (2, .int a1), (3, .ref ((x + 4) + 13))]) rfl ?_
          exact jt_X9_breakAt_44 hd  _ hX hF hQ
        · have hQ := hQ.2 c_33_5
          refine x_iload_n 3 d_X9_breakAt_36 rfl rfl ?_
          refine x_iconst (v := (2 : Int32)) d_X9_breakAt_37 (by decide) ?_
          refine x_icmp_ne (tgt := 44) d_X9_breakAt_38 (by decide) (fun c_38_9 => ?_) (fun c_38_9 => ?_)
          · have hQ := hQ.1 c_38_9
            refine x_sub [2, 3, 0] (lv2 := [(1, .int a0), (2, .int a1), (3, .ref ((x + 4) + 13))]) rfl ?_
            exact jt_X9_breakAt_44 hd  _ hX hF hQ
          · have hQ := hQ.2 c_38_9
            refine x_ldc (v := (-2000000004 : Int32)) kc_X9_62 d_X9_breakAt_41 ?_
            exact x_iret (retI d_X9_breakAt_43 rfl) ⟨_, rfl, hX, hF, hQ⟩
    · have hQ := hQ.2 c_10_3
      refine x_ldc (v := (-2000000001 : Int32)) kc_X9_45 d_X9_breakAt_13 ?_
      exact x_iret (retI d_X9_breakAt_15 rfl) ⟨_, rfl, hX, hF, hQ⟩
def wp_X9_value (t : RT) (c : RT) (r : RT) (p : RT) (ct : Int32) (kp : Nat → Option Nat) (kr : Nat → RT) (sl : Nat → Option Nat) (sr : Nat → RT) (a0 : Int32) (a1 : Int32) (K : Int32 → Prop) : Prop := wp_X9_isVariable a0 (fun (r1 : Int32) => ((r1 = (0 : Int32) → K (-2000000001 : Int32)) ∧ (¬ r1 = (0 : Int32) → wp_X9_isWithin a1 (-10000 : Int32) (8000 : Int32) (fun (r3 : Int32) => ((¬ r3 = (0 : Int32) → wp_X4_stepTo c a1 (fun (r5 : Int32) => wp_X4_endTime c (fun (r6 : Int32) => ((a1 ≤ r6 → wp_X6_valueIn c r5 a0 a1 (fun (r8 : Int32) => K r8)) ∧ (¬ a1 ≤ r6 → K (-2000000004 : Int32)))))) ∧ (r3 = (0 : Int32) → K (-2000000001 : Int32)))))))
set_option maxHeartbeats 4000000 in
theorem sp_X9_value {G : GX} {l : Launch} {d x : Nat} {w : HW} {t : RT} {c : RT} {r : RT} {p : RT} {ct : Int32} {kp : Nat → Option Nat} {kr : Nat → RT} {sl : Nat → Option Nat} {sr : Nat → RT} {a0 : Int32} {a1 : Int32} {K : Int32 → Prop} (hd : 4 ≤ d) (hX : XW w x t c r p ct kp kr sl sr) (hQ : wp_X9_value t c r p ct kp kr sl sr a0 a1 K) : Sp G l m_X9_value d 0 0 [.ref x, .int a0, .int a1] w (fun r9 w2 => ∃ (r1 : Int32), r9 = some (.int r1) ∧ XW w2 x t c r p ct kp kr sl sr ∧ Out x w w2 ∧ K r1) := by
  refine Sp.ofX k_X9_value.1.1 (Nat.le_of_ble_eq_true rfl) ?_
  refine X.lv (lv2 := [(0, .ref x), (1, .int a0), (2, .int a1)]) rfl ?_
  have hF : Out x w w := Out.rf
  refine x_iload_n 1 d_X9_value_0 rfl rfl ?_
  refine x_invS (rest := []) (d' := d - 1) (mc' := 0) (ms' := 0) [.int a0] k_X9_isVariable lk_X9_63 rfl rfl (Nat.le_of_ble_eq_true rfl) (by omega) (Nat.le_of_ble_eq_true rfl) (Nat.le_of_ble_eq_true rfl) d_X9_value_1 ((sp_X9_isVariable (w := w) (d := d - 1) (by omega) hQ).mono (fun r w2 hr => ?_))
  obtain ⟨r1, rfl, rfl, hQ⟩ := hr
  refine x_if_eq (tgt := 20) d_X9_value_4 (by decide) (fun c_4_2 => ?_) (fun c_4_2 => ?_)
  · have hQ := hQ.1 c_4_2
    refine x_ldc (v := (-2000000001 : Int32)) kc_X9_45 d_X9_value_20 ?_
    exact x_iret (retI d_X9_value_22 rfl) ⟨_, rfl, hX, hF, hQ⟩
  · have hQ := hQ.2 c_4_2
    refine x_iload_n 2 d_X9_value_7 rfl rfl ?_
    refine x_sipush (v := (-10000 : Int32)) d_X9_value_8 (by decide) ?_
    refine x_sipush (v := (8000 : Int32)) d_X9_value_11 (by decide) ?_
    refine x_invS (rest := []) (d' := d - 1) (mc' := 0) (ms' := 0) [.int a1, .int (-10000 : Int32), .int (8000 : Int32)] k_X9_isWithin lk_X9_41 rfl rfl (Nat.le_of_ble_eq_true rfl) (by omega) (Nat.le_of_ble_eq_true rfl) (Nat.le_of_ble_eq_true rfl) d_X9_value_14 ((sp_X9_isWithin (w := w2) (d := d - 1) (by omega) hQ).mono (fun r w2 hr => ?_))
    obtain ⟨r3, rfl, rfl, hQ⟩ := hr
    refine x_if_ne (tgt := 23) d_X9_value_17 (by decide) (fun c_17_4 => ?_) (fun c_17_4 => ?_)
    · have hQ := hQ.1 c_17_4
      refine x_aload_n 0 d_X9_value_23 rfl rfl ?_
      refine x_getf 1 gf_X9_19 hX.1 rfl d_X9_value_24 ?_
      refine x_getfN 5 gf_X9_165 (hX.hC 0 (by decide)) rfl d_X9_value_27 ?_
      refine x_iload_n 2 d_X9_value_30 rfl rfl ?_
      have hsp := sp_X4_stepTo (G := G) (l := l) (w := w2) (a := (x + 4)) (s := c) (d := d - 1) (by omega) hQ
      rw [has_eq hX.hC] at hsp
      refine x_invV (rest := []) (d' := d - 1) (mc' := 0) (ms' := 0) [.int a1] k_X4_stepTo lk_X9_178 (hX.hC 17 (by decide)) rfl rfl rfl (Nat.le_of_ble_eq_true rfl) (by omega) (Nat.le_of_ble_eq_true rfl) (Nat.le_of_ble_eq_true rfl) d_X9_value_31 (hsp.mono (fun r w2 hr => ?_))
      obtain ⟨r5, rfl, rfl, hQ⟩ := hr
      refine x_istore_n (lv2 := [(3, .int r5), (0, .ref x), (1, .int a0), (2, .int a1)]) d_X9_value_34 rfl (by decide) rfl ?_
      refine x_iload_n 3 d_X9_value_35 rfl rfl ?_
      refine x_aload_n 1 d_X9_value_36 rfl rfl ?_
      refine x_getf 1 gf_X9_19 hX.1 rfl d_X9_value_37 ?_
      refine x_getfN 5 gf_X9_165 (hX.hC 0 (by decide)) rfl d_X9_value_40 ?_
      have hsp := sp_X4_endTime (G := G) (l := l) (w := w2) (a := (x + 4)) (s := c) (d := d - 1) (by omega) hQ
      rw [has_eq hX.hC] at hsp
      refine x_invV (rest := [.int a1]) (d' := d - 1) (mc' := 0) (ms' := 0) [] k_X4_endTime lk_X9_169 (hX.hC 17 (by decide)) rfl rfl rfl (Nat.le_of_ble_eq_true rfl) (by omega) (Nat.le_of_ble_eq_true rfl) (Nat.le_of_ble_eq_true rfl) d_X9_value_43 (hsp.mono (fun r w2 hr => ?_))
      obtain ⟨r6, rfl, rfl, hQ⟩ := hr
      refine x_icmp_le (tgt := 54) d_X9_value_46 (by decide) (fun c_46_7 => ?_) (fun c_46_7 => ?_)
      · have hQ := hQ.1 c_46_7
        refine x_aload_n 1 d_X9_value_54 rfl rfl ?_
        refine x_getf 1 gf_X9_19 hX.1 rfl d_X9_value_55 ?_
        refine x_iload_n 0 d_X9_value_58 rfl rfl ?_
        refine x_iload_n 2 d_X9_value_59 rfl rfl ?_
        refine x_iload_n 3 d_X9_value_60 rfl rfl ?_
        have hsp := sp_X6_valueIn (G := G) (l := l) (w := w2) (a := (x + 4)) (s := c) (d := d - 1) (by omega) hQ
        rw [has_eq hX.hC] at hsp
        refine x_invV (rest := []) (d' := d - 1) (mc' := 0) (ms' := 0) [.int r5, .int a0, .int a1] k_X6_valueIn lk_X9_181 (hX.hC 0 (by decide)) rfl rfl rfl (Nat.le_of_ble_eq_true rfl) (by omega) (Nat.le_of_ble_eq_true rfl) (Nat.le_of_ble_eq_true rfl) d_X9_value_61 (hsp.mono (fun r w2 hr => ?_))
        obtain ⟨r8, rfl, rfl, hQ⟩ := hr
        exact x_iret (retI d_X9_value_64 rfl) ⟨_, rfl, hX, hF, hQ⟩
      · have hQ := hQ.2 c_46_7
        refine x_ldc (v := (-2000000004 : Int32)) kc_X9_62 d_X9_value_49 ?_
        refine x_goto (tgt := 64) d_X9_value_51 (by decide) ?_
        exact x_iret (retI d_X9_value_64 rfl) ⟨_, rfl, hX, hF, hQ⟩
    · have hQ := hQ.2 c_17_4
      refine x_ldc (v := (-2000000001 : Int32)) kc_X9_45 d_X9_value_20 ?_
      exact x_iret (retI d_X9_value_22 rfl) ⟨_, rfl, hX, hF, hQ⟩
def wp_X9_slope (t : RT) (c : RT) (r : RT) (p : RT) (ct : Int32) (kp : Nat → Option Nat) (kr : Nat → RT) (sl : Nat → Option Nat) (sr : Nat → RT) (a0 : Int32) (a1 : Int32) (K : Int32 → Prop) : Prop := wp_X9_isVariable a0 (fun (r1 : Int32) => ((r1 = (0 : Int32) → K (-2000000001 : Int32)) ∧ (¬ r1 = (0 : Int32) → wp_X9_isWithin a1 (-10000 : Int32) (8000 : Int32) (fun (r3 : Int32) => ((¬ r3 = (0 : Int32) → wp_X4_stepTo c a1 (fun (r5 : Int32) => wp_X4_endTime c (fun (r6 : Int32) => ((a1 ≤ r6 → wp_X6_slopeIn c r5 a0 a1 (fun (r8 : Int32) => K r8)) ∧ (¬ a1 ≤ r6 → K (-2000000004 : Int32)))))) ∧ (r3 = (0 : Int32) → K (-2000000001 : Int32)))))))
set_option maxHeartbeats 4000000 in
theorem sp_X9_slope {G : GX} {l : Launch} {d x : Nat} {w : HW} {t : RT} {c : RT} {r : RT} {p : RT} {ct : Int32} {kp : Nat → Option Nat} {kr : Nat → RT} {sl : Nat → Option Nat} {sr : Nat → RT} {a0 : Int32} {a1 : Int32} {K : Int32 → Prop} (hd : 4 ≤ d) (hX : XW w x t c r p ct kp kr sl sr) (hQ : wp_X9_slope t c r p ct kp kr sl sr a0 a1 K) : Sp G l m_X9_slope d 0 0 [.ref x, .int a0, .int a1] w (fun r9 w2 => ∃ (r1 : Int32), r9 = some (.int r1) ∧ XW w2 x t c r p ct kp kr sl sr ∧ Out x w w2 ∧ K r1) := by
  refine Sp.ofX k_X9_slope.1.1 (Nat.le_of_ble_eq_true rfl) ?_
  refine X.lv (lv2 := [(0, .ref x), (1, .int a0), (2, .int a1)]) rfl ?_
  have hF : Out x w w := Out.rf
  refine x_iload_n 1 d_X9_slope_0 rfl rfl ?_
  refine x_invS (rest := []) (d' := d - 1) (mc' := 0) (ms' := 0) [.int a0] k_X9_isVariable lk_X9_63 rfl rfl (Nat.le_of_ble_eq_true rfl) (by omega) (Nat.le_of_ble_eq_true rfl) (Nat.le_of_ble_eq_true rfl) d_X9_slope_1 ((sp_X9_isVariable (w := w) (d := d - 1) (by omega) hQ).mono (fun r w2 hr => ?_))
  obtain ⟨r1, rfl, rfl, hQ⟩ := hr
  refine x_if_eq (tgt := 20) d_X9_slope_4 (by decide) (fun c_4_2 => ?_) (fun c_4_2 => ?_)
  · have hQ := hQ.1 c_4_2
    refine x_ldc (v := (-2000000001 : Int32)) kc_X9_45 d_X9_slope_20 ?_
    exact x_iret (retI d_X9_slope_22 rfl) ⟨_, rfl, hX, hF, hQ⟩
  · have hQ := hQ.2 c_4_2
    refine x_iload_n 2 d_X9_slope_7 rfl rfl ?_
    refine x_sipush (v := (-10000 : Int32)) d_X9_slope_8 (by decide) ?_
    refine x_sipush (v := (8000 : Int32)) d_X9_slope_11 (by decide) ?_
    refine x_invS (rest := []) (d' := d - 1) (mc' := 0) (ms' := 0) [.int a1, .int (-10000 : Int32), .int (8000 : Int32)] k_X9_isWithin lk_X9_41 rfl rfl (Nat.le_of_ble_eq_true rfl) (by omega) (Nat.le_of_ble_eq_true rfl) (Nat.le_of_ble_eq_true rfl) d_X9_slope_14 ((sp_X9_isWithin (w := w2) (d := d - 1) (by omega) hQ).mono (fun r w2 hr => ?_))
    obtain ⟨r3, rfl, rfl, hQ⟩ := hr
    refine x_if_ne (tgt := 23) d_X9_slope_17 (by decide) (fun c_17_4 => ?_) (fun c_17_4 => ?_)
    · have hQ := hQ.1 c_17_4
      refine x_aload_n 0 d_X9_slope_23 rfl rfl ?_
      refine x_getf 1 gf_X9_19 hX.1 rfl d_X9_slope_24 ?_
      refine x_getfN 5 gf_X9_165 (hX.hC 0 (by decide)) rfl d_X9_slope_27 ?_
      refine x_iload_n 2 d_X9_slope_30 rfl rfl ?_
      have hsp := sp_X4_stepTo (G := G) (l := l) (w := w2) (a := (x + 4)) (s := c) (d := d - 1) (by omega) hQ
      rw [has_eq hX.hC] at hsp
      refine x_invV (rest := []) (d' := d - 1) (mc' := 0) (ms' := 0) [.int a1] k_X4_stepTo lk_X9_178 (hX.hC 17 (by decide)) rfl rfl rfl (Nat.le_of_ble_eq_true rfl) (by omega) (Nat.le_of_ble_eq_true rfl) (Nat.le_of_ble_eq_true rfl) d_X9_slope_31 (hsp.mono (fun r w2 hr => ?_))
      obtain ⟨r5, rfl, rfl, hQ⟩ := hr
      refine x_istore_n (lv2 := [(3, .int r5), (0, .ref x), (1, .int a0), (2, .int a1)]) d_X9_slope_34 rfl (by decide) rfl ?_
      refine x_iload_n 3 d_X9_slope_35 rfl rfl ?_
      refine x_aload_n 1 d_X9_slope_36 rfl rfl ?_
      refine x_getf 1 gf_X9_19 hX.1 rfl d_X9_slope_37 ?_
      refine x_getfN 5 gf_X9_165 (hX.hC 0 (by decide)) rfl d_X9_slope_40 ?_
      have hsp := sp_X4_endTime (G := G) (l := l) (w := w2) (a := (x + 4)) (s := c) (d := d - 1) (by omega) hQ
      rw [has_eq hX.hC] at hsp
      refine x_invV (rest := [.int a1]) (d' := d - 1) (mc' := 0) (ms' := 0) [] k_X4_endTime lk_X9_169 (hX.hC 17 (by decide)) rfl rfl rfl (Nat.le_of_ble_eq_true rfl) (by omega) (Nat.le_of_ble_eq_true rfl) (Nat.le_of_ble_eq_true rfl) d_X9_slope_43 (hsp.mono (fun r w2 hr => ?_))
      obtain ⟨r6, rfl, rfl, hQ⟩ := hr
      refine x_icmp_le (tgt := 54) d_X9_slope_46 (by decide) (fun c_46_7 => ?_) (fun c_46_7 => ?_)
      · have hQ := hQ.1 c_46_7
        refine x_aload_n 1 d_X9_slope_54 rfl rfl ?_
        refine x_getf 1 gf_X9_19 hX.1 rfl d_X9_slope_55 ?_
        refine x_iload_n 0 d_X9_slope_58 rfl rfl ?_
        refine x_iload_n 2 d_X9_slope_59 rfl rfl ?_
        refine x_iload_n 3 d_X9_slope_60 rfl rfl ?_
        have hsp := sp_X6_slopeIn (G := G) (l := l) (w := w2) (a := (x + 4)) (s := c) (d := d - 1) (by omega) hQ
        rw [has_eq hX.hC] at hsp
        refine x_invV (rest := []) (d' := d - 1) (mc' := 0) (ms' := 0) [.int r5, .int a0, .int a1] k_X6_slopeIn lk_X9_185 (hX.hC 0 (by decide)) rfl rfl rfl (Nat.le_of_ble_eq_true rfl) (by omega) (Nat.le_of_ble_eq_true rfl) (Nat.le_of_ble_eq_true rfl) d_X9_slope_61 (hsp.mono (fun r w2 hr => ?_))
        obtain ⟨r8, rfl, rfl, hQ⟩ := hr
        exact x_iret (retI d_X9_slope_64 rfl) ⟨_, rfl, hX, hF, hQ⟩
      · have hQ := hQ.2 c_46_7
        refine x_ldc (v := (-2000000004 : Int32)) kc_X9_62 d_X9_slope_49 ?_
        refine x_goto (tgt := 64) d_X9_slope_51 (by decide) ?_
        exact x_iret (retI d_X9_slope_64 rfl) ⟨_, rfl, hX, hF, hQ⟩
    · have hQ := hQ.2 c_17_4
      refine x_ldc (v := (-2000000001 : Int32)) kc_X9_45 d_X9_slope_20 ?_
      exact x_iret (retI d_X9_slope_22 rfl) ⟨_, rfl, hX, hF, hQ⟩
def wp_X9_rightAt (t : RT) (c : RT) (r : RT) (p : RT) (ct : Int32) (kp : Nat → Option Nat) (kr : Nat → RT) (sl : Nat → Option Nat) (sr : Nat → RT) (a0 : Int32) (a1 : Int32) (K : Int32 → RT → Prop) : Prop := wp_X9_isVariable a0 (fun (r1 : Int32) => ((r1 = (0 : Int32) → K (-2000000001 : Int32) p) ∧ (¬ r1 = (0 : Int32) → wp_X9_isWithin a1 (0 : Int32) (8000 : Int32) (fun (r3 : Int32) => ((¬ r3 = (0 : Int32) → wp_X4_endTime c (fun (r5 : Int32) => ((a1 ≤ r5 → wp_X7_rightSide p c a0 a1 (fun (r7 : Int32) (s8 : RT) => K r7 s8)) ∧ (¬ a1 ≤ r5 → K (-2000000004 : Int32) p)))) ∧ (r3 = (0 : Int32) → K (-2000000001 : Int32) p))))))
set_option maxHeartbeats 4000000 in
theorem sp_X9_rightAt {G : GX} {l : Launch} {d x : Nat} {w : HW} {t : RT} {c : RT} {r : RT} {p : RT} {ct : Int32} {kp : Nat → Option Nat} {kr : Nat → RT} {sl : Nat → Option Nat} {sr : Nat → RT} {a0 : Int32} {a1 : Int32} {K : Int32 → RT → Prop} (hd : 6 ≤ d) (hX : XW w x t c r p ct kp kr sl sr) (hQ : wp_X9_rightAt t c r p ct kp kr sl sr a0 a1 K) : Sp G l m_X9_rightAt d 0 0 [.ref x, .int a0, .int a1] w (fun r9 w2 => ∃ (r1 : Int32), ∃ (z_p : RT), r9 = some (.int r1) ∧ XW w2 x t c r z_p ct kp kr sl sr ∧ Out x w w2 ∧ K r1 z_p) := by
  refine Sp.ofX k_X9_rightAt.1.1 (Nat.le_of_ble_eq_true rfl) ?_
  refine X.lv (lv2 := [(0, .ref x), (1, .int a0), (2, .int a1)]) rfl ?_
  have hF : Out x w w := Out.rf
  refine x_iload_n 1 d_X9_rightAt_0 rfl rfl ?_
  refine x_invS (rest := []) (d' := d - 1) (mc' := 0) (ms' := 0) [.int a0] k_X9_isVariable lk_X9_63 rfl rfl (Nat.le_of_ble_eq_true rfl) (by omega) (Nat.le_of_ble_eq_true rfl) (Nat.le_of_ble_eq_true rfl) d_X9_rightAt_1 ((sp_X9_isVariable (w := w) (d := d - 1) (by omega) hQ).mono (fun r w2 hr => ?_))
  obtain ⟨r1, rfl, rfl, hQ⟩ := hr
  refine x_if_eq (tgt := 18) d_X9_rightAt_4 (by decide) (fun c_4_2 => ?_) (fun c_4_2 => ?_)
  · have hQ := hQ.1 c_4_2
    refine x_ldc (v := (-2000000001 : Int32)) kc_X9_45 d_X9_rightAt_18 ?_
    exact x_iret (retI d_X9_rightAt_20 rfl) ⟨_, _, rfl, hX, hF, hQ⟩
  · have hQ := hQ.2 c_4_2
    refine x_iload_n 2 d_X9_rightAt_7 rfl rfl ?_
    refine x_iconst (v := (0 : Int32)) d_X9_rightAt_8 (by decide) ?_
    refine x_sipush (v := (8000 : Int32)) d_X9_rightAt_9 (by decide) ?_
    refine x_invS (rest := []) (d' := d - 1) (mc' := 0) (ms' := 0) [.int a1, .int (0 : Int32), .int (8000 : Int32)] k_X9_isWithin lk_X9_41 rfl rfl (Nat.le_of_ble_eq_true rfl) (by omega) (Nat.le_of_ble_eq_true rfl) (Nat.le_of_ble_eq_true rfl) d_X9_rightAt_12 ((sp_X9_isWithin (w := w2) (d := d - 1) (by omega) hQ).mono (fun r w2 hr => ?_))
    obtain ⟨r3, rfl, rfl, hQ⟩ := hr
    refine x_if_ne (tgt := 21) d_X9_rightAt_15 (by decide) (fun c_15_4 => ?_) (fun c_15_4 => ?_)
    · have hQ := hQ.1 c_15_4
      refine x_iload_n 2 d_X9_rightAt_21 rfl rfl ?_
      refine x_aload_n 0 d_X9_rightAt_22 rfl rfl ?_
      refine x_getf 1 gf_X9_19 hX.1 rfl d_X9_rightAt_23 ?_
      refine x_getfN 5 gf_X9_165 (hX.hC 0 (by decide)) rfl d_X9_rightAt_26 ?_
      have hsp := sp_X4_endTime (G := G) (l := l) (w := w2) (a := (x + 4)) (s := c) (d := d - 1) (by omega) hQ
      rw [has_eq hX.hC] at hsp
      refine x_invV (rest := [.int a1]) (d' := d - 1) (mc' := 0) (ms' := 0) [] k_X4_endTime lk_X9_169 (hX.hC 17 (by decide)) rfl rfl rfl (Nat.le_of_ble_eq_true rfl) (by omega) (Nat.le_of_ble_eq_true rfl) (Nat.le_of_ble_eq_true rfl) d_X9_rightAt_29 (hsp.mono (fun r w2 hr => ?_))
      obtain ⟨r5, rfl, rfl, hQ⟩ := hr
      refine x_icmp_le (tgt := 40) d_X9_rightAt_32 (by decide) (fun c_32_6 => ?_) (fun c_32_6 => ?_)
      · have hQ := hQ.1 c_32_6
        refine x_aload_n 0 d_X9_rightAt_40 rfl rfl ?_
        refine x_getf 5 gf_X9_37 hX.1 rfl d_X9_rightAt_41 ?_
        refine x_aload_n 0 d_X9_rightAt_44 rfl rfl ?_
        refine x_getf 1 gf_X9_19 hX.1 rfl d_X9_rightAt_45 ?_
        refine x_iload_n 1 d_X9_rightAt_48 rfl rfl ?_
        refine x_iload_n 2 d_X9_rightAt_49 rfl rfl ?_
        have hsp := sp_X7_rightSide (G := G) (l := l) (w := w2) (b := (x + 26)) (p := p) (a := (x + 4)) (s := c) (d := d - 1) (by omega) (by omega) hQ
        rw [has_eq hX.hP, has_eq hX.hC] at hsp
        refine x_invV (rest := []) (d' := d - 1) (mc' := 0) (ms' := 0) [.ref (x + 4), .int a0, .int a1] k_X7_rightSide lk_X9_188 (hX.hP 0 (by decide)) rfl rfl rfl (Nat.le_of_ble_eq_true rfl) (by omega) (Nat.le_of_ble_eq_true rfl) (Nat.le_of_ble_eq_true rfl) d_X9_rightAt_50 (hsp.mono (fun r w2 hr => ?_))
        obtain ⟨r7, s8, rfl, rfl, hQ⟩ := hr
        rw [has_eq (has_out (by omega) hX.hC)]
        have hF := (hF.put (a := (x + 26)) (n := 7) (g := shP (x + 26) s8) (by omega) (by omega))
        have hX := (hX.setP (z := s8))
        generalize put w2 (x + 26) 7 (shP (x + 26) s8) = w9 at hX hF ⊢
        exact x_iret (retI d_X9_rightAt_53 rfl) ⟨_, _, rfl, hX, hF, hQ⟩
      · have hQ := hQ.2 c_32_6
        refine x_ldc (v := (-2000000004 : Int32)) kc_X9_62 d_X9_rightAt_35 ?_
        refine x_goto (tgt := 53) d_X9_rightAt_37 (by decide) ?_
        exact x_iret (retI d_X9_rightAt_53 rfl) ⟨_, _, rfl, hX, hF, hQ⟩
    · have hQ := hQ.2 c_15_4
      refine x_ldc (v := (-2000000001 : Int32)) kc_X9_45 d_X9_rightAt_18 ?_
      exact x_iret (retI d_X9_rightAt_20 rfl) ⟨_, _, rfl, hX, hF, hQ⟩
def wp_X9_step (t : RT) (c : RT) (r : RT) (p : RT) (ct : Int32) (kp : Nat → Option Nat) (kr : Nat → RT) (sl : Nat → Option Nat) (sr : Nat → RT) (a0 : Int32) (a1 : Int32) (K : Int32 → Prop) : Prop := ((a0 < (0 : Int32) → K (-2000000001 : Int32)) ∧ (¬ a0 < (0 : Int32) → wp_X9_isWithin a1 (0 : Int32) (5 : Int32) (fun (r2 : Int32) => ((¬ r2 = (0 : Int32) → ((a0 < (c.2.2 1) → ((¬ a1 = (0 : Int32) → ((¬ a1 = (1 : Int32) → ((¬ a1 = (5 : Int32) → wp_X4_firstSlope c a0 (a1 - (2 : Int32)) (fun (r8 : Int32) => K r8)) ∧ (a1 = (5 : Int32) → wp_X4_roundsOf c a0 (fun (r9 : Int32) => K r9)))) ∧ (a1 = (1 : Int32) → wp_X4_endOf c a0 (fun (r10 : Int32) => wp_X4_beginOf c a0 (fun (r11 : Int32) => K (r10 - r11)))))) ∧ (a1 = (0 : Int32) → wp_X4_beginOf c a0 (fun (r12 : Int32) => K r12)))) ∧ (¬ a0 < (c.2.2 1) → K (-2000000004 : Int32)))) ∧ (r2 = (0 : Int32) → K (-2000000001 : Int32))))))
set_option maxHeartbeats 4000000 in
theorem sp_X9_step {G : GX} {l : Launch} {d x : Nat} {w : HW} {t : RT} {c : RT} {r : RT} {p : RT} {ct : Int32} {kp : Nat → Option Nat} {kr : Nat → RT} {sl : Nat → Option Nat} {sr : Nat → RT} {a0 : Int32} {a1 : Int32} {K : Int32 → Prop} (hd : 2 ≤ d) (hX : XW w x t c r p ct kp kr sl sr) (hQ : wp_X9_step t c r p ct kp kr sl sr a0 a1 K) : Sp G l m_X9_step d 0 0 [.ref x, .int a0, .int a1] w (fun r9 w2 => ∃ (r1 : Int32), r9 = some (.int r1) ∧ XW w2 x t c r p ct kp kr sl sr ∧ Out x w w2 ∧ K r1) := by
  refine Sp.ofX k_X9_step.1.1 (Nat.le_of_ble_eq_true rfl) ?_
  refine X.lv (lv2 := [(0, .ref x), (1, .int a0), (2, .int a1)]) rfl ?_
  have hF : Out x w w := Out.rf
  refine x_iload_n 1 d_X9_step_0 rfl rfl ?_
  refine x_if_lt (tgt := 13) d_X9_step_1 (by decide) (fun c_1_1 => ?_) (fun c_1_1 => ?_)
  · have hQ := hQ.1 c_1_1
    refine x_ldc (v := (-2000000001 : Int32)) kc_X9_45 d_X9_step_13 ?_
    exact x_iret (retI d_X9_step_15 rfl) ⟨_, rfl, hX, hF, hQ⟩
  · have hQ := hQ.2 c_1_1
    refine x_iload_n 2 d_X9_step_4 rfl rfl ?_
    refine x_iconst (v := (0 : Int32)) d_X9_step_5 (by decide) ?_
    refine x_iconst (v := (5 : Int32)) d_X9_step_6 (by decide) ?_
    refine x_invS (rest := []) (d' := d - 1) (mc' := 0) (ms' := 0) [.int a1, .int (0 : Int32), .int (5 : Int32)] k_X9_isWithin lk_X9_41 rfl rfl (Nat.le_of_ble_eq_true rfl) (by omega) (Nat.le_of_ble_eq_true rfl) (Nat.le_of_ble_eq_true rfl) d_X9_step_7 ((sp_X9_isWithin (w := w) (d := d - 1) (by omega) hQ).mono (fun r w2 hr => ?_))
    obtain ⟨r2, rfl, rfl, hQ⟩ := hr
    refine x_if_ne (tgt := 16) d_X9_step_10 (by decide) (fun c_10_3 => ?_) (fun c_10_3 => ?_)
    · have hQ := hQ.1 c_10_3
      refine x_aload_n 0 d_X9_step_16 rfl rfl ?_
      refine x_getf 1 gf_X9_19 hX.1 rfl d_X9_step_17 ?_
      refine x_getfN 5 gf_X9_165 (hX.hC 0 (by decide)) rfl d_X9_step_20 ?_
      refine x_astore_n (lv2 := [(3, .ref ((x + 4) + 17)), (0, .ref x), (1, .int a0), (2, .int a1)]) d_X9_step_23 rfl (by decide) rfl ?_
      refine x_iload_n 2 d_X9_step_24 rfl rfl ?_
      refine x_aload_n 0 d_X9_step_25 rfl rfl ?_
      refine x_getfN 1 gf_X9_192 (hX.hC 17 (by decide)) rfl d_X9_step_26 ?_
      refine x_icmp_lt (tgt := 35) d_X9_step_29 (by decide) (fun c_29_4 => ?_) (fun c_29_4 => ?_)
      · have hQ := hQ.1 c_29_4
        refine x_iload_n 3 d_X9_step_35 rfl rfl ?_
        refine x_if_ne (tgt := 45) d_X9_step_36 (by decide) (fun c_36_5 => ?_) (fun c_36_5 => ?_)
        · have hQ := hQ.1 c_36_5
          refine x_iload_n 3 d_X9_step_45 rfl rfl ?_
          refine x_iconst (v := (1 : Int32)) d_X9_step_46 (by decide) ?_
          refine x_icmp_ne (tgt := 62) d_X9_step_47 (by decide) (fun c_47_6 => ?_) (fun c_47_6 => ?_)
          · have hQ := hQ.1 c_47_6
            refine x_iload_n 3 d_X9_step_62 rfl rfl ?_
            refine x_iconst (v := (5 : Int32)) d_X9_step_63 (by decide) ?_
            refine x_icmp_ne (tgt := 75) d_X9_step_64 (by decide) (fun c_64_7 => ?_) (fun c_64_7 => ?_)
            · have hQ := hQ.1 c_64_7
              refine x_aload_n 0 d_X9_step_75 rfl rfl ?_
              refine x_iload_n 2 d_X9_step_76 rfl rfl ?_
              refine x_iload_n 3 d_X9_step_77 rfl rfl ?_
              refine x_iconst (v := (2 : Int32)) d_X9_step_78 (by decide) ?_
              refine x_isub d_X9_step_79 ?_
              have hsp := sp_X4_firstSlope (G := G) (l := l) (w := w2) (a := (x + 4)) (s := c) (d := d - 1) (by omega) hQ
              rw [has_eq hX.hC] at hsp
              refine x_invV (rest := []) (d' := d - 1) (mc' := 0) (ms' := 0) [.int a0, .int (a1 - (2 : Int32))] k_X4_firstSlope lk_X9_204 (hX.hC 17 (by decide)) rfl rfl rfl (Nat.le_of_ble_eq_true rfl) (by omega) (Nat.le_of_ble_eq_true rfl) (Nat.le_of_ble_eq_true rfl) d_X9_step_80 (hsp.mono (fun r w2 hr => ?_))
              obtain ⟨r8, rfl, rfl, hQ⟩ := hr
              exact x_iret (retI d_X9_step_83 rfl) ⟨_, rfl, hX, hF, hQ⟩
            · have hQ := hQ.2 c_64_7
              refine x_aload_n 0 d_X9_step_67 rfl rfl ?_
              refine x_iload_n 2 d_X9_step_68 rfl rfl ?_
              have hsp := sp_X4_roundsOf (G := G) (l := l) (w := w2) (a := (x + 4)) (s := c) (d := d - 1) (by omega) hQ
              rw [has_eq hX.hC] at hsp
              refine x_invV (rest := []) (d' := d - 1) (mc' := 0) (ms' := 0) [.int a0] k_X4_roundsOf lk_X9_201 (hX.hC 17 (by decide)) rfl rfl rfl (Nat.le_of_ble_eq_true rfl) (by omega) (Nat.le_of_ble_eq_true rfl) (Nat.le_of_ble_eq_true rfl) d_X9_step_69 (hsp.mono (fun r w2 hr => ?_))
              obtain ⟨r9, rfl, rfl, hQ⟩ := hr
              refine x_goto (tgt := 83) d_X9_step_72 (by decide) ?_
              exact x_iret (retI d_X9_step_83 rfl) ⟨_, rfl, hX, hF, hQ⟩
          · have hQ := hQ.2 c_47_6
            refine x_aload_n 0 d_X9_step_50 rfl rfl ?_
            refine x_iload_n 2 d_X9_step_51 rfl rfl ?_
            have hsp := sp_X4_endOf (G := G) (l := l) (w := w2) (a := (x + 4)) (s := c) (d := d - 1) (by omega) hQ
            rw [has_eq hX.hC] at hsp
            refine x_invV (rest := []) (d' := d - 1) (mc' := 0) (ms' := 0) [.int a0] k_X4_endOf lk_X9_198 (hX.hC 17 (by decide)) rfl rfl rfl (Nat.le_of_ble_eq_true rfl) (by omega) (Nat.le_of_ble_eq_true rfl) (Nat.le_of_ble_eq_true rfl) d_X9_step_52 (hsp.mono (fun r w2 hr => ?_))
            obtain ⟨r10, rfl, rfl, hQ⟩ := hr
            refine x_aload_n 0 d_X9_step_55 rfl rfl ?_
            refine x_iload_n 2 d_X9_step_56 rfl rfl ?_
            have hsp := sp_X4_beginOf (G := G) (l := l) (w := w2) (a := (x + 4)) (s := c) (d := d - 1) (by omega) hQ
            rw [has_eq hX.hC] at hsp
            refine x_invV (rest := [.int r10]) (d' := d - 1) (mc' := 0) (ms' := 0) [.int a0] k_X4_beginOf lk_X9_195 (hX.hC 17 (by decide)) rfl rfl rfl (Nat.le_of_ble_eq_true rfl) (by omega) (Nat.le_of_ble_eq_true rfl) (Nat.le_of_ble_eq_true rfl) d_X9_step_57 (hsp.mono (fun r w2 hr => ?_))
            obtain ⟨r11, rfl, rfl, hQ⟩ := hr
            refine x_isub d_X9_step_60 ?_
            exact x_iret (retI d_X9_step_61 rfl) ⟨_, rfl, hX, hF, hQ⟩
        · have hQ := hQ.2 c_36_5
          refine x_aload_n 0 d_X9_step_39 rfl rfl ?_
          refine x_iload_n 2 d_X9_step_40 rfl rfl ?_
          have hsp := sp_X4_beginOf (G := G) (l := l) (w := w2) (a := (x + 4)) (s := c) (d := d - 1) (by omega) hQ
          rw [has_eq hX.hC] at hsp
          refine x_invV (rest := []) (d' := d - 1) (mc' := 0) (ms' := 0) [.int a0] k_X4_beginOf lk_X9_195 (hX.hC 17 (by decide)) rfl rfl rfl (Nat.le_of_ble_eq_true rfl) (by omega) (Nat.le_of_ble_eq_true rfl) (Nat.le_of_ble_eq_true rfl) d_X9_step_41 (hsp.mono (fun r w2 hr => ?_))
          obtain ⟨r12, rfl, rfl, hQ⟩ := hr
          exact x_iret (retI d_X9_step_44 rfl) ⟨_, rfl, hX, hF, hQ⟩
      · have hQ := hQ.2 c_29_4
        refine x_ldc (v := (-2000000004 : Int32)) kc_X9_62 d_X9_step_32 ?_
        exact x_iret (retI d_X9_step_34 rfl) ⟨_, rfl, hX, hF, hQ⟩
    · have hQ := hQ.2 c_10_3
      refine x_ldc (v := (-2000000001 : Int32)) kc_X9_45 d_X9_step_13 ?_
      exact x_iret (retI d_X9_step_15 rfl) ⟨_, rfl, hX, hF, hQ⟩
def jp_X9_crossing_148 (t : RT) (c : RT) (r : RT) (p : RT) (ct : Int32) (kp : Nat → Option Nat) (kr : Nat → RT) (sl : Nat → Option Nat) (sr : Nat → RT) (a0 : Int32) (a1 : Int32) (a2 : Int32) (K : Int32 → Prop) (k_92 : Int32 → Int32 → Int32 → Int32 → Prop) (x_5 : Int32) (x_6 : Int32) (x_8 : Int32) (x_9 : Int32) : Prop := ∀ x18 : Int32, x18 = x_8 + (1 : Int32) → k_92 x_5 x_6 x_9 x18
set_option maxHeartbeats 4000000 in
theorem jt_X9_crossing_148 {G : GX} {l : Launch} {d x : Nat} {wa : HW} {t : RT} {c : RT} {r : RT} {p : RT} {ct : Int32} {kp : Nat → Option Nat} {kr : Nat → RT} {sl : Nat → Option Nat} {sr : Nat → RT} {a0 : Int32} {a1 : Int32} {a2 : Int32} {K : Int32 → Prop} {k_92 : Int32 → Int32 → Int32 → Int32 → Prop} (hd : 3 ≤ d) (hk_92 : ∀ (x_5 : Int32) (x_6 : Int32) (x_7 : Int32) (x_8 : Int32) (w : HW), XW w x t c r p ct kp kr sl sr → Out x wa w → k_92 x_5 x_6 x_7 x_8 → X G l m_X9_crossing d 0 0 0 0 92 [(1, .int a0), (2, .int a1), (4, .ref ((x + 4) + 17)), (5, .int x_5), (6, .int x_6), (7, .int x_7), (8, .int x_8)] [] w (fun r9 w2 => ∃ (r1 : Int32), r9 = some (.int r1) ∧ XW w2 x t c r p ct kp kr sl sr ∧ Out x wa w2 ∧ K r1)) (x_5 : Int32) (x_6 : Int32) (x_8 : Int32) (x_9 : Int32) (w : HW) (hX : XW w x t c r p ct kp kr sl sr) (hF : Out x wa w) (hQ : jp_X9_crossing_148 t c r p ct kp kr sl sr a0 a1 a2 K k_92 x_5 x_6 x_8 x_9) : X G l m_X9_crossing d 0 0 0 0 148 [(1, .int a0), (2, .int a1), (4, .ref ((x + 4) + 17)), (5, .int x_5), (6, .int x_6), (8, .int x_8), (9, .int x_9)] [] w (fun r9 w2 => ∃ (r1 : Int32), r9 = some (.int r1) ∧ XW w2 x t c r p ct kp kr sl sr ∧ Out x wa w2 ∧ K r1) := by
  refine x_iload 6 d_X9_crossing_148 rfl ?_
  refine x_istore (lv2 := [(7, .int x_9), (1, .int a0), (2, .int a1), (4, .ref ((x + 4) + 17)), (5, .int x_5), (6, .int x_6), (8, .int x_8), (9, .int x_9)]) d_X9_crossing_150 (by decide) rfl ?_
  obtain ⟨x18, e_x18⟩ : ∃ z : Int32, z = x_8 + (1 : Int32) := ⟨_, rfl⟩
  have hQ := hQ x18 e_x18
  refine x_iinc (v := x18) (lv2 := [(8, .int x18), (7, .int x_9), (1, .int a0), (2, .int a1), (4, .ref ((x + 4) + 17)), (5, .int x_5), (6, .int x_6), (9, .int x_9)]) 6 d_X9_crossing_152 rfl (by rw [e_x18]; rfl) (by decide) rfl ?_
  refine x_goto (tgt := 92) d_X9_crossing_155 (by decide) ?_
  refine x_sub [2, 3, 4, 5, 6, 1, 0] (lv2 := [(1, .int a0), (2, .int a1), (4, .ref ((x + 4) + 17)), (5, .int x_5), (6, .int x_6), (7, .int x_9), (8, .int x18)]) rfl ?_
  exact hk_92 x_5 x_6 x_9 x18 _ hX hF hQ
def jp_X9_crossing_133 (t : RT) (c : RT) (r : RT) (p : RT) (ct : Int32) (kp : Nat → Option Nat) (kr : Nat → RT) (sl : Nat → Option Nat) (sr : Nat → RT) (a0 : Int32) (a1 : Int32) (a2 : Int32) (K : Int32 → Prop) (k_92 : Int32 → Int32 → Int32 → Int32 → Prop) (x_5 : Int32) (x_6 : Int32) (x_7 : Int32) (x_8 : Int32) (t_0 : Int32) : Prop := ((x_7 = (0 : Int32) → jp_X9_crossing_148 t c r p ct kp kr sl sr a0 a1 a2 K k_92 x_5 x_6 x_8 t_0) ∧ (¬ x_7 = (0 : Int32) → ((¬ t_0 = (0 : Int32) → jp_X9_crossing_148 t c r p ct kp kr sl sr a0 a1 a2 K k_92 x_5 x_6 x_8 t_0) ∧ (t_0 = (0 : Int32) → K x_8))))
set_option maxHeartbeats 4000000 in
theorem jt_X9_crossing_133 {G : GX} {l : Launch} {d x : Nat} {wa : HW} {t : RT} {c : RT} {r : RT} {p : RT} {ct : Int32} {kp : Nat → Option Nat} {kr : Nat → RT} {sl : Nat → Option Nat} {sr : Nat → RT} {a0 : Int32} {a1 : Int32} {a2 : Int32} {K : Int32 → Prop} {k_92 : Int32 → Int32 → Int32 → Int32 → Prop} (hd : 3 ≤ d) (hk_92 : ∀ (x_5 : Int32) (x_6 : Int32) (x_7 : Int32) (x_8 : Int32) (w : HW), XW w x t c r p ct kp kr sl sr → Out x wa w → k_92 x_5 x_6 x_7 x_8 → X G l m_X9_crossing d 0 0 0 0 92 [(1, .int a0), (2, .int a1), (4, .ref ((x + 4) + 17)), (5, .int x_5), (6, .int x_6), (7, .int x_7), (8, .int x_8)] [] w (fun r9 w2 => ∃ (r1 : Int32), r9 = some (.int r1) ∧ XW w2 x t c r p ct kp kr sl sr ∧ Out x wa w2 ∧ K r1)) (x_5 : Int32) (x_6 : Int32) (x_7 : Int32) (x_8 : Int32) (t_0 : Int32) (w : HW) (hX : XW w x t c r p ct kp kr sl sr) (hF : Out x wa w) (hQ : jp_X9_crossing_133 t c r p ct kp kr sl sr a0 a1 a2 K k_92 x_5 x_6 x_7 x_8 t_0) : X G l m_X9_crossing d 0 0 0 0 133 [(1, .int a0), (2, .int a1), (4, .ref ((x + 4) + 17)), (5, .int x_5), (6, .int x_6), (7, .int x_7), (8, .int x_8)] [.int t_0] w (fun r9 w2 => ∃ (r1 : Int32), r9 = some (.int r1) ∧ XW w2 x t c r p ct kp kr sl sr ∧ Out x wa w2 ∧ K r1) := by
  refine x_istore (lv2 := [(9, .int t_0), (1, .int a0), (2, .int a1), (4, .ref ((x + 4) + 17)), (5, .int x_5), (6, .int x_6), (7, .int x_7), (8, .int x_8)]) d_X9_crossing_133 (by decide) rfl ?_
  refine x_iload 6 d_X9_crossing_135 rfl ?_
  refine x_if_eq (tgt := 148) d_X9_crossing_137 (by decide) (fun c_137_17 => ?_) (fun c_137_17 => ?_)
  · have hQ := hQ.1 c_137_17
    refine x_sub [1, 2, 3, 4, 5, 7, 0] (lv2 := [(1, .int a0), (2, .int a1), (4, .ref ((x + 4) + 17)), (5, .int x_5), (6, .int x_6), (8, .int x_8), (9, .int t_0)]) rfl ?_
    exact jt_X9_crossing_148 hd hk_92 x_5 x_6 x_8 t_0 _ hX hF hQ
  · have hQ := hQ.2 c_137_17
    refine x_iload 0 d_X9_crossing_140 rfl ?_
    refine x_if_ne (tgt := 148) d_X9_crossing_142 (by decide) (fun c_142_19 => ?_) (fun c_142_19 => ?_)
    · have hQ := hQ.1 c_142_19
      refine x_sub [1, 2, 3, 4, 5, 7, 0] (lv2 := [(1, .int a0), (2, .int a1), (4, .ref ((x + 4) + 17)), (5, .int x_5), (6, .int x_6), (8, .int x_8), (9, .int t_0)]) rfl ?_
      exact jt_X9_crossing_148 hd hk_92 x_5 x_6 x_8 t_0 _ hX hF hQ
    · have hQ := hQ.2 c_142_19
      refine x_iload 7 d_X9_crossing_145 rfl ?_
      exact x_iret (retI d_X9_crossing_147 rfl) ⟨_, rfl, hX, hF, hQ⟩
def jp_X9_crossing_114 (t : RT) (c : RT) (r : RT) (p : RT) (ct : Int32) (kp : Nat → Option Nat) (kr : Nat → RT) (sl : Nat → Option Nat) (sr : Nat → RT) (a0 : Int32) (a1 : Int32) (a2 : Int32) (K : Int32 → Prop) (k_92 : Int32 → Int32 → Int32 → Int32 → Prop) (x_5 : Int32) (x_6 : Int32) (x_7 : Int32) (x_8 : Int32) : Prop := wp_X4_valueIn c x_6 a0 x_8 (fun (r15 : Int32) => ((a1 ≤ r15 → jp_X9_crossing_133 t c r p ct kp kr sl sr a0 a1 a2 K k_92 x_5 x_6 x_7 x_8 (0 : Int32)) ∧ (¬ a1 ≤ r15 → jp_X9_crossing_133 t c r p ct kp kr sl sr a0 a1 a2 K k_92 x_5 x_6 x_7 x_8 (1 : Int32))))
set_option maxHeartbeats 4000000 in
theorem jt_X9_crossing_114 {G : GX} {l : Launch} {d x : Nat} {wa : HW} {t : RT} {c : RT} {r : RT} {p : RT} {ct : Int32} {kp : Nat → Option Nat} {kr : Nat → RT} {sl : Nat → Option Nat} {sr : Nat → RT} {a0 : Int32} {a1 : Int32} {a2 : Int32} {K : Int32 → Prop} {k_92 : Int32 → Int32 → Int32 → Int32 → Prop} (hd : 3 ≤ d) (hk_92 : ∀ (x_5 : Int32) (x_6 : Int32) (x_7 : Int32) (x_8 : Int32) (w : HW), XW w x t c r p ct kp kr sl sr → Out x wa w → k_92 x_5 x_6 x_7 x_8 → X G l m_X9_crossing d 0 0 0 0 92 [(1, .int a0), (2, .int a1), (4, .ref ((x + 4) + 17)), (5, .int x_5), (6, .int x_6), (7, .int x_7), (8, .int x_8)] [] w (fun r9 w2 => ∃ (r1 : Int32), r9 = some (.int r1) ∧ XW w2 x t c r p ct kp kr sl sr ∧ Out x wa w2 ∧ K r1)) (x_5 : Int32) (x_6 : Int32) (x_7 : Int32) (x_8 : Int32) (w : HW) (hX : XW w x t c r p ct kp kr sl sr) (hF : Out x wa w) (hQ : jp_X9_crossing_114 t c r p ct kp kr sl sr a0 a1 a2 K k_92 x_5 x_6 x_7 x_8) : X G l m_X9_crossing d 0 0 0 0 114 [(1, .int a0), (2, .int a1), (4, .ref ((x + 4) + 17)), (5, .int x_5), (6, .int x_6), (7, .int x_7), (8, .int x_8)] [] w (fun r9 w2 => ∃ (r1 : Int32), r9 = some (.int r1) ∧ XW w2 x t c r p ct kp kr sl sr ∧ Out x wa w2 ∧ K r1) := by
  refine x_aload 2 d_X9_crossing_114 rfl ?_
  refine x_iload 4 d_X9_crossing_116 rfl ?_
  refine x_iload_n 0 d_X9_crossing_118 rfl rfl ?_
  refine x_iload 6 d_X9_crossing_119 rfl ?_
  have hsp := sp_X4_valueIn (G := G) (l := l) (w := w) (a := (x + 4)) (s := c) (d := d - 1) (by omega) hQ
  rw [has_eq hX.hC] at hsp
  refine x_invV (rest := []) (d' := d - 1) (mc' := 0) (ms' := 0) [.int x_6, .int a0, .int x_8] k_X4_valueIn lk_X9_209 (hX.hC 17 (by decide)) rfl rfl rfl (Nat.le_of_ble_eq_true rfl) (by omega) (Nat.le_of_ble_eq_true rfl) (Nat.le_of_ble_eq_true rfl) d_X9_crossing_121 (hsp.mono (fun r w2 hr => ?_))
  obtain ⟨r15, rfl, rfl, hQ⟩ := hr
  refine x_iload_n 1 d_X9_crossing_124 rfl rfl ?_
  refine x_icmp_ge (tgt := 132) d_X9_crossing_125 (by decide) (fun c_125_16 => ?_) (fun c_125_16 => ?_)
  · have hQ := hQ.1 c_125_16
    refine x_iconst (v := (0 : Int32)) d_X9_crossing_132 (by decide) ?_
    refine x_sub [0, 1, 2, 3, 4, 5, 6] (lv2 := [(1, .int a0), (2, .int a1), (4, .ref ((x + 4) + 17)), (5, .int x_5), (6, .int x_6), (7, .int x_7), (8, .int x_8)]) rfl ?_
    exact jt_X9_crossing_133 hd hk_92 x_5 x_6 x_7 x_8 (0 : Int32) _ hX hF hQ
  · have hQ := hQ.2 c_125_16
    refine x_iconst (v := (1 : Int32)) d_X9_crossing_128 (by decide) ?_
    refine x_goto (tgt := 133) d_X9_crossing_129 (by decide) ?_
    refine x_sub [0, 1, 2, 3, 4, 5, 6] (lv2 := [(1, .int a0), (2, .int a1), (4, .ref ((x + 4) + 17)), (5, .int x_5), (6, .int x_6), (7, .int x_7), (8, .int x_8)]) rfl ?_
    exact jt_X9_crossing_133 hd hk_92 x_5 x_6 x_7 x_8 (1 : Int32) _ hX hF hQ
def lp_X9_crossing_92 (t : RT) (c : RT) (r : RT) (p : RT) (ct : Int32) (kp : Nat → Option Nat) (kr : Nat → RT) (sl : Nat → Option Nat) (sr : Nat → RT) (a0 : Int32) (a1 : Int32) (a2 : Int32) (K : Int32 → Prop) : Nat → Int32 → Int32 → Int32 → Int32 → Prop
  | 0, _, _, _, _ => False
  | n + 1, x_5, x_6, x_7, x_8 => ((x_5 < x_8 → K (-2000000004 : Int32)) ∧ (¬ x_5 < x_8 → wp_X4_endOf c x_6 (fun (r13 : Int32) => ((x_8 ≤ r13 → jp_X9_crossing_114 t c r p ct kp kr sl sr a0 a1 a2 K (fun v0 v1 v2 v3 => lp_X9_crossing_92 t c r p ct kp kr sl sr a0 a1 a2 K n v0 v1 v2 v3) x_5 x_6 x_7 x_8) ∧ (¬ x_8 ≤ r13 → ∀ x20 : Int32, x20 = x_6 + (1 : Int32) → jp_X9_crossing_114 t c r p ct kp kr sl sr a0 a1 a2 K (fun v0 v1 v2 v3 => lp_X9_crossing_92 t c r p ct kp kr sl sr a0 a1 a2 K n v0 v1 v2 v3) x_5 x20 x_7 x_8)))))
set_option maxHeartbeats 4000000 in
theorem jt_X9_crossing_92 {G : GX} {l : Launch} {d x : Nat} {wa : HW} {t : RT} {c : RT} {r : RT} {p : RT} {ct : Int32} {kp : Nat → Option Nat} {kr : Nat → RT} {sl : Nat → Option Nat} {sr : Nat → RT} {a0 : Int32} {a1 : Int32} {a2 : Int32} {K : Int32 → Prop} (hd : 3 ≤ d) : ∀ (n : Nat) (x_5 : Int32) (x_6 : Int32) (x_7 : Int32) (x_8 : Int32) (w : HW), XW w x t c r p ct kp kr sl sr → Out x wa w → lp_X9_crossing_92 t c r p ct kp kr sl sr a0 a1 a2 K n x_5 x_6 x_7 x_8 → X G l m_X9_crossing d 0 0 0 0 92 [(1, .int a0), (2, .int a1), (4, .ref ((x + 4) + 17)), (5, .int x_5), (6, .int x_6), (7, .int x_7), (8, .int x_8)] [] w (fun r9 w2 => ∃ (r1 : Int32), r9 = some (.int r1) ∧ XW w2 x t c r p ct kp kr sl sr ∧ Out x wa w2 ∧ K r1) := by
  intro n
  induction n with
  | zero =>
    intro x_5 x_6 x_7 x_8 w hX hF hQ
    exact hQ.elim
  | succ n ih =>
    intro x_5 x_6 x_7 x_8 w hX hF hQ
    refine x_iload 6 d_X9_crossing_92 rfl ?_
    refine x_iload 3 d_X9_crossing_94 rfl ?_
    refine x_icmp_gt (tgt := 158) d_X9_crossing_96 (by decide) (fun c_96_12 => ?_) (fun c_96_12 => ?_)
    · have hQ := hQ.1 c_96_12
      refine x_ldc (v := (-2000000004 : Int32)) kc_X9_62 d_X9_crossing_158 ?_
      exact x_iret (retI d_X9_crossing_160 rfl) ⟨_, rfl, hX, hF, hQ⟩
    · have hQ := hQ.2 c_96_12
      refine x_iload 6 d_X9_crossing_99 rfl ?_
      refine x_aload 2 d_X9_crossing_101 rfl ?_
      refine x_iload 4 d_X9_crossing_103 rfl ?_
      have hsp := sp_X4_endOf (G := G) (l := l) (w := w) (a := (x + 4)) (s := c) (d := d - 1) (by omega) hQ
      rw [has_eq hX.hC] at hsp
      refine x_invV (rest := [.int x_8]) (d' := d - 1) (mc' := 0) (ms' := 0) [.int x_6] k_X4_endOf lk_X9_198 (hX.hC 17 (by decide)) rfl rfl rfl (Nat.le_of_ble_eq_true rfl) (by omega) (Nat.le_of_ble_eq_true rfl) (Nat.le_of_ble_eq_true rfl) d_X9_crossing_105 (hsp.mono (fun r w2 hr => ?_))
      obtain ⟨r13, rfl, rfl, hQ⟩ := hr
      refine x_icmp_le (tgt := 114) d_X9_crossing_108 (by decide) (fun c_108_14 => ?_) (fun c_108_14 => ?_)
      · have hQ := hQ.1 c_108_14
        refine x_sub [0, 1, 2, 3, 4, 5, 6] (lv2 := [(1, .int a0), (2, .int a1), (4, .ref ((x + 4) + 17)), (5, .int x_5), (6, .int x_6), (7, .int x_7), (8, .int x_8)]) rfl ?_
        exact jt_X9_crossing_114 hd ih x_5 x_6 x_7 x_8 _ hX hF hQ
      · have hQ := hQ.2 c_108_14
        obtain ⟨x20, e_x20⟩ : ∃ z : Int32, z = x_6 + (1 : Int32) := ⟨_, rfl⟩
        have hQ := hQ x20 e_x20
        refine x_iinc (v := x20) (lv2 := [(6, .int x20), (1, .int a0), (2, .int a1), (4, .ref ((x + 4) + 17)), (5, .int x_5), (7, .int x_7), (8, .int x_8)]) 4 d_X9_crossing_111 rfl (by rw [e_x20]; rfl) (by decide) rfl ?_
        refine x_sub [1, 2, 3, 4, 0, 5, 6] (lv2 := [(1, .int a0), (2, .int a1), (4, .ref ((x + 4) + 17)), (5, .int x_5), (6, .int x20), (7, .int x_7), (8, .int x_8)]) rfl ?_
        exact jt_X9_crossing_114 hd ih x_5 x20 x_7 x_8 _ hX hF hQ
def wp_X9_crossing (t : RT) (c : RT) (r : RT) (p : RT) (ct : Int32) (kp : Nat → Option Nat) (kr : Nat → RT) (sl : Nat → Option Nat) (sr : Nat → RT) (a0 : Int32) (a1 : Int32) (a2 : Int32) (K : Int32 → Prop) : Prop := wp_X9_isVariable a0 (fun (r1 : Int32) => ((r1 = (0 : Int32) → K (-2000000001 : Int32)) ∧ (¬ r1 = (0 : Int32) → wp_X9_isWithin a1 (-1000000000 : Int32) (1000000000 : Int32) (fun (r3 : Int32) => ((r3 = (0 : Int32) → K (-2000000001 : Int32)) ∧ (¬ r3 = (0 : Int32) → wp_X9_isWithin a2 (1 : Int32) (8000 : Int32) (fun (r5 : Int32) => ((¬ r5 = (0 : Int32) → wp_X4_endTime c (fun (r7 : Int32) => ((a2 ≤ r7 → wp_X4_stepTo c (a2 - (1 : Int32)) (fun (r9 : Int32) => wp_X4_valueIn c r9 a0 (a2 - (1 : Int32)) (fun (r10 : Int32) => ((a1 ≤ r10 → ∃ m : Nat, lp_X9_crossing_92 t c r p ct kp kr sl sr a0 a1 a2 K m r7 r9 (0 : Int32) a2) ∧ (¬ a1 ≤ r10 → ∃ m : Nat, lp_X9_crossing_92 t c r p ct kp kr sl sr a0 a1 a2 K m r7 r9 (1 : Int32) a2))))) ∧ (¬ a2 ≤ r7 → K (-2000000004 : Int32))))) ∧ (r5 = (0 : Int32) → K (-2000000001 : Int32))))))))))
set_option maxHeartbeats 4000000 in
theorem sp_X9_crossing {G : GX} {l : Launch} {d x : Nat} {w : HW} {t : RT} {c : RT} {r : RT} {p : RT} {ct : Int32} {kp : Nat → Option Nat} {kr : Nat → RT} {sl : Nat → Option Nat} {sr : Nat → RT} {a0 : Int32} {a1 : Int32} {a2 : Int32} {K : Int32 → Prop} (hd : 3 ≤ d) (hX : XW w x t c r p ct kp kr sl sr) (hQ : wp_X9_crossing t c r p ct kp kr sl sr a0 a1 a2 K) : Sp G l m_X9_crossing d 0 0 [.ref x, .int a0, .int a1, .int a2] w (fun r9 w2 => ∃ (r1 : Int32), r9 = some (.int r1) ∧ XW w2 x t c r p ct kp kr sl sr ∧ Out x w w2 ∧ K r1) := by
  refine Sp.ofX k_X9_crossing.1.1 (Nat.le_of_ble_eq_true rfl) ?_
  refine X.lv (lv2 := [(0, .ref x), (1, .int a0), (2, .int a1), (3, .int a2)]) rfl ?_
  have hF : Out x w w := Out.rf
  refine x_iload_n 1 d_X9_crossing_0 rfl rfl ?_
  refine x_invS (rest := []) (d' := d - 1) (mc' := 0) (ms' := 0) [.int a0] k_X9_isVariable lk_X9_63 rfl rfl (Nat.le_of_ble_eq_true rfl) (by omega) (Nat.le_of_ble_eq_true rfl) (Nat.le_of_ble_eq_true rfl) d_X9_crossing_1 ((sp_X9_isVariable (w := w) (d := d - 1) (by omega) hQ).mono (fun r w2 hr => ?_))
  obtain ⟨r1, rfl, rfl, hQ⟩ := hr
  refine x_if_eq (tgt := 29) d_X9_crossing_4 (by decide) (fun c_4_2 => ?_) (fun c_4_2 => ?_)
  · have hQ := hQ.1 c_4_2
    refine x_ldc (v := (-2000000001 : Int32)) kc_X9_45 d_X9_crossing_29 ?_
    exact x_iret (retI d_X9_crossing_31 rfl) ⟨_, rfl, hX, hF, hQ⟩
  · have hQ := hQ.2 c_4_2
    refine x_iload_n 2 d_X9_crossing_7 rfl rfl ?_
    refine x_ldc (v := (-1000000000 : Int32)) kc_X9_207 d_X9_crossing_8 ?_
    refine x_ldc (v := (1000000000 : Int32)) kc_X9_208 d_X9_crossing_10 ?_
    refine x_invS (rest := []) (d' := d - 1) (mc' := 0) (ms' := 0) [.int a1, .int (-1000000000 : Int32), .int (1000000000 : Int32)] k_X9_isWithin lk_X9_41 rfl rfl (Nat.le_of_ble_eq_true rfl) (by omega) (Nat.le_of_ble_eq_true rfl) (Nat.le_of_ble_eq_true rfl) d_X9_crossing_12 ((sp_X9_isWithin (w := w2) (d := d - 1) (by omega) hQ).mono (fun r w2 hr => ?_))
    obtain ⟨r3, rfl, rfl, hQ⟩ := hr
    refine x_if_eq (tgt := 29) d_X9_crossing_15 (by decide) (fun c_15_4 => ?_) (fun c_15_4 => ?_)
    · have hQ := hQ.1 c_15_4
      refine x_ldc (v := (-2000000001 : Int32)) kc_X9_45 d_X9_crossing_29 ?_
      exact x_iret (retI d_X9_crossing_31 rfl) ⟨_, rfl, hX, hF, hQ⟩
    · have hQ := hQ.2 c_15_4
      refine x_iload_n 3 d_X9_crossing_18 rfl rfl ?_
      refine x_iconst (v := (1 : Int32)) d_X9_crossing_19 (by decide) ?_
      refine x_sipush (v := (8000 : Int32)) d_X9_crossing_20 (by decide) ?_
      refine x_invS (rest := []) (d' := d - 1) (mc' := 0) (ms' := 0) [.int a2, .int (1 : Int32), .int (8000 : Int32)] k_X9_isWithin lk_X9_41 rfl rfl (Nat.le_of_ble_eq_true rfl) (by omega) (Nat.le_of_ble_eq_true rfl) (Nat.le_of_ble_eq_true rfl) d_X9_crossing_23 ((sp_X9_isWithin (w := w2) (d := d - 1) (by omega) hQ).mono (fun r w2 hr => ?_))
      obtain ⟨r5, rfl, rfl, hQ⟩ := hr
      refine x_if_ne (tgt := 32) d_X9_crossing_26 (by decide) (fun c_26_6 => ?_) (fun c_26_6 => ?_)
      · have hQ := hQ.1 c_26_6
        refine x_aload_n 0 d_X9_crossing_32 rfl rfl ?_
        refine x_getf 1 gf_X9_19 hX.1 rfl d_X9_crossing_33 ?_
        refine x_getfN 5 gf_X9_165 (hX.hC 0 (by decide)) rfl d_X9_crossing_36 ?_
        refine x_astore (lv2 := [(4, .ref ((x + 4) + 17)), (0, .ref x), (1, .int a0), (2, .int a1), (3, .int a2)]) d_X9_crossing_39 (by decide) rfl ?_
        refine x_aload 0 d_X9_crossing_41 rfl ?_
        have hsp := sp_X4_endTime (G := G) (l := l) (w := w2) (a := (x + 4)) (s := c) (d := d - 1) (by omega) hQ
        rw [has_eq hX.hC] at hsp
        refine x_invV (rest := []) (d' := d - 1) (mc' := 0) (ms' := 0) [] k_X4_endTime lk_X9_169 (hX.hC 17 (by decide)) rfl rfl rfl (Nat.le_of_ble_eq_true rfl) (by omega) (Nat.le_of_ble_eq_true rfl) (Nat.le_of_ble_eq_true rfl) d_X9_crossing_43 (hsp.mono (fun r w2 hr => ?_))
        obtain ⟨r7, rfl, rfl, hQ⟩ := hr
        refine x_istore (lv2 := [(5, .int r7), (4, .ref ((x + 4) + 17)), (0, .ref x), (1, .int a0), (2, .int a1), (3, .int a2)]) d_X9_crossing_46 (by decide) rfl ?_
        refine x_iload_n 5 d_X9_crossing_48 rfl rfl ?_
        refine x_iload 0 d_X9_crossing_49 rfl ?_
        refine x_icmp_le (tgt := 57) d_X9_crossing_51 (by decide) (fun c_51_8 => ?_) (fun c_51_8 => ?_)
        · have hQ := hQ.1 c_51_8
          refine x_aload 1 d_X9_crossing_57 rfl ?_
          refine x_iload_n 5 d_X9_crossing_59 rfl rfl ?_
          refine x_iconst (v := (1 : Int32)) d_X9_crossing_60 (by decide) ?_
          refine x_isub d_X9_crossing_61 ?_
          have hsp := sp_X4_stepTo (G := G) (l := l) (w := w2) (a := (x + 4)) (s := c) (d := d - 1) (by omega) hQ
          rw [has_eq hX.hC] at hsp
          refine x_invV (rest := []) (d' := d - 1) (mc' := 0) (ms' := 0) [.int (a2 - (1 : Int32))] k_X4_stepTo lk_X9_178 (hX.hC 17 (by decide)) rfl rfl rfl (Nat.le_of_ble_eq_true rfl) (by omega) (Nat.le_of_ble_eq_true rfl) (Nat.le_of_ble_eq_true rfl) d_X9_crossing_62 (hsp.mono (fun r w2 hr => ?_))
          obtain ⟨r9, rfl, rfl, hQ⟩ := hr
          refine x_istore (lv2 := [(6, .int r9), (5, .int r7), (4, .ref ((x + 4) + 17)), (0, .ref x), (1, .int a0), (2, .int a1), (3, .int a2)]) d_X9_crossing_65 (by decide) rfl ?_
          refine x_aload 2 d_X9_crossing_67 rfl ?_
          refine x_iload 0 d_X9_crossing_69 rfl ?_
          refine x_iload_n 4 d_X9_crossing_71 rfl rfl ?_
          refine x_iload_n 6 d_X9_crossing_72 rfl rfl ?_
          refine x_iconst (v := (1 : Int32)) d_X9_crossing_73 (by decide) ?_
          refine x_isub d_X9_crossing_74 ?_
          have hsp := sp_X4_valueIn (G := G) (l := l) (w := w2) (a := (x + 4)) (s := c) (d := d - 1) (by omega) hQ
          rw [has_eq hX.hC] at hsp
          refine x_invV (rest := []) (d' := d - 1) (mc' := 0) (ms' := 0) [.int r9, .int a0, .int (a2 - (1 : Int32))] k_X4_valueIn lk_X9_209 (hX.hC 17 (by decide)) rfl rfl rfl (Nat.le_of_ble_eq_true rfl) (by omega) (Nat.le_of_ble_eq_true rfl) (Nat.le_of_ble_eq_true rfl) d_X9_crossing_75 (hsp.mono (fun r w2 hr => ?_))
          obtain ⟨r10, rfl, rfl, hQ⟩ := hr
          refine x_iload_n 5 d_X9_crossing_78 rfl rfl ?_
          refine x_icmp_ge (tgt := 86) d_X9_crossing_79 (by decide) (fun c_79_11 => ?_) (fun c_79_11 => ?_)
          · have hQ := hQ.1 c_79_11
            refine x_iconst (v := (0 : Int32)) d_X9_crossing_86 (by decide) ?_
            refine x_istore (lv2 := [(7, .int (0 : Int32)), (6, .int r9), (5, .int r7), (4, .ref ((x + 4) + 17)), (0, .ref x), (1, .int a0), (2, .int a1), (3, .int a2)]) d_X9_crossing_87 (by decide) rfl ?_
            refine x_iload_n 7 d_X9_crossing_89 rfl rfl ?_
            refine x_istore (lv2 := [(8, .int a2), (7, .int (0 : Int32)), (6, .int r9), (5, .int r7), (4, .ref ((x + 4) + 17)), (0, .ref x), (1, .int a0), (2, .int a1), (3, .int a2)]) d_X9_crossing_90 (by decide) rfl ?_
            refine x_sub [6, 7, 4, 3, 2, 1, 0] (lv2 := [(1, .int a0), (2, .int a1), (4, .ref ((x + 4) + 17)), (5, .int r7), (6, .int r9), (7, .int (0 : Int32)), (8, .int a2)]) rfl ?_
            obtain ⟨m, hQ⟩ := hQ
            exact jt_X9_crossing_92 hd m r7 r9 (0 : Int32) a2 _ hX hF hQ
          · have hQ := hQ.2 c_79_11
            refine x_iconst (v := (1 : Int32)) d_X9_crossing_82 (by decide) ?_
            refine x_goto (tgt := 87) d_X9_crossing_83 (by decide) ?_
            refine x_istore (lv2 := [(7, .int (1 : Int32)), (6, .int r9), (5, .int r7), (4, .ref ((x + 4) + 17)), (0, .ref x), (1, .int a0), (2, .int a1), (3, .int a2)]) d_X9_crossing_87 (by decide) rfl ?_
            refine x_iload_n 7 d_X9_crossing_89 rfl rfl ?_
            refine x_istore (lv2 := [(8, .int a2), (7, .int (1 : Int32)), (6, .int r9), (5, .int r7), (4, .ref ((x + 4) + 17)), (0, .ref x), (1, .int a0), (2, .int a1), (3, .int a2)]) d_X9_crossing_90 (by decide) rfl ?_
            refine x_sub [6, 7, 4, 3, 2, 1, 0] (lv2 := [(1, .int a0), (2, .int a1), (4, .ref ((x + 4) + 17)), (5, .int r7), (6, .int r9), (7, .int (1 : Int32)), (8, .int a2)]) rfl ?_
            obtain ⟨m, hQ⟩ := hQ
            exact jt_X9_crossing_92 hd m r7 r9 (1 : Int32) a2 _ hX hF hQ
        · have hQ := hQ.2 c_51_8
          refine x_ldc (v := (-2000000004 : Int32)) kc_X9_62 d_X9_crossing_54 ?_
          exact x_iret (retI d_X9_crossing_56 rfl) ⟨_, rfl, hX, hF, hQ⟩
      · have hQ := hQ.2 c_26_6
        refine x_ldc (v := (-2000000001 : Int32)) kc_X9_45 d_X9_crossing_29 ?_
        exact x_iret (retI d_X9_crossing_31 rfl) ⟨_, rfl, hX, hF, hQ⟩
def jp_X9_greatest_111 (t : RT) (c : RT) (r : RT) (p : RT) (ct : Int32) (kp : Nat → Option Nat) (kr : Nat → RT) (sl : Nat → Option Nat) (sr : Nat → RT) (a0 : Int32) (a1 : Int32) (a2 : Int32) (a3 : Int32) (K : Int32 → Prop) (k_90 : Int32 → Int32 → Int32 → Int32 → Prop) (x_6 : Int32) (x_7 : Int32) (x_8 : Int32) (x_9 : Int32) : Prop := wp_X4_valueIn c x_6 a0 x_9 (fun (r18 : Int32) => ((r18 ≤ x_7 → ∀ x20 : Int32, x20 = x_9 + (1 : Int32) → k_90 x_6 x_7 x_8 x20) ∧ (¬ r18 ≤ x_7 → ∀ x21 : Int32, x21 = x_9 + (1 : Int32) → k_90 x_6 r18 x_9 x21)))
set_option maxHeartbeats 4000000 in
theorem jt_X9_greatest_111 {G : GX} {l : Launch} {d x : Nat} {wa : HW} {t : RT} {c : RT} {r : RT} {p : RT} {ct : Int32} {kp : Nat → Option Nat} {kr : Nat → RT} {sl : Nat → Option Nat} {sr : Nat → RT} {a0 : Int32} {a1 : Int32} {a2 : Int32} {a3 : Int32} {K : Int32 → Prop} {k_90 : Int32 → Int32 → Int32 → Int32 → Prop} (hd : 3 ≤ d) (hk_90 : ∀ (x_6 : Int32) (x_7 : Int32) (x_8 : Int32) (x_9 : Int32) (w : HW), XW w x t c r p ct kp kr sl sr → Out x wa w → k_90 x_6 x_7 x_8 x_9 → X G l m_X9_greatest d 0 0 0 0 90 [(1, .int a0), (3, .int a2), (4, .int a3), (5, .ref ((x + 4) + 17)), (6, .int x_6), (7, .int x_7), (8, .int x_8), (9, .int x_9)] [] w (fun r9 w2 => ∃ (r1 : Int32), r9 = some (.int r1) ∧ XW w2 x t c r p ct kp kr sl sr ∧ Out x wa w2 ∧ K r1)) (x_6 : Int32) (x_7 : Int32) (x_8 : Int32) (x_9 : Int32) (w : HW) (hX : XW w x t c r p ct kp kr sl sr) (hF : Out x wa w) (hQ : jp_X9_greatest_111 t c r p ct kp kr sl sr a0 a1 a2 a3 K k_90 x_6 x_7 x_8 x_9) : X G l m_X9_greatest d 0 0 0 0 111 [(1, .int a0), (3, .int a2), (4, .int a3), (5, .ref ((x + 4) + 17)), (6, .int x_6), (7, .int x_7), (8, .int x_8), (9, .int x_9)] [] w (fun r9 w2 => ∃ (r1 : Int32), r9 = some (.int r1) ∧ XW w2 x t c r p ct kp kr sl sr ∧ Out x wa w2 ∧ K r1) := by
  refine x_aload 3 d_X9_greatest_111 rfl ?_
  refine x_iload 4 d_X9_greatest_113 rfl ?_
  refine x_iload_n 0 d_X9_greatest_115 rfl rfl ?_
  refine x_iload 7 d_X9_greatest_116 rfl ?_
  have hsp := sp_X4_valueIn (G := G) (l := l) (w := w) (a := (x + 4)) (s := c) (d := d - 1) (by omega) hQ
  rw [has_eq hX.hC] at hsp
  refine x_invV (rest := []) (d' := d - 1) (mc' := 0) (ms' := 0) [.int x_6, .int a0, .int x_9] k_X4_valueIn lk_X9_209 (hX.hC 17 (by decide)) rfl rfl rfl (Nat.le_of_ble_eq_true rfl) (by omega) (Nat.le_of_ble_eq_true rfl) (Nat.le_of_ble_eq_true rfl) d_X9_greatest_118 (hsp.mono (fun r w2 hr => ?_))
  obtain ⟨r18, rfl, rfl, hQ⟩ := hr
  refine x_istore (lv2 := [(10, .int r18), (1, .int a0), (3, .int a2), (4, .int a3), (5, .ref ((x + 4) + 17)), (6, .int x_6), (7, .int x_7), (8, .int x_8), (9, .int x_9)]) d_X9_greatest_121 (by decide) rfl ?_
  refine x_iload 0 d_X9_greatest_123 rfl ?_
  refine x_iload 6 d_X9_greatest_125 rfl ?_
  refine x_icmp_le (tgt := 138) d_X9_greatest_127 (by decide) (fun c_127_19 => ?_) (fun c_127_19 => ?_)
  · have hQ := hQ.1 c_127_19
    obtain ⟨x20, e_x20⟩ : ∃ z : Int32, z = x_9 + (1 : Int32) := ⟨_, rfl⟩
    have hQ := hQ x20 e_x20
    refine x_iinc (v := x20) (lv2 := [(9, .int x20), (10, .int r18), (1, .int a0), (3, .int a2), (4, .int a3), (5, .ref ((x + 4) + 17)), (6, .int x_6), (7, .int x_7), (8, .int x_8)]) 8 d_X9_greatest_138 rfl (by rw [e_x20]; rfl) (by decide) rfl ?_
    refine x_goto (tgt := 90) d_X9_greatest_141 (by decide) ?_
    refine x_sub [2, 3, 4, 5, 6, 7, 8, 0] (lv2 := [(1, .int a0), (3, .int a2), (4, .int a3), (5, .ref ((x + 4) + 17)), (6, .int x_6), (7, .int x_7), (8, .int x_8), (9, .int x20)]) rfl ?_
    exact hk_90 x_6 x_7 x_8 x20 _ hX hF hQ
  · have hQ := hQ.2 c_127_19
    refine x_iload 0 d_X9_greatest_130 rfl ?_
    refine x_istore (lv2 := [(7, .int r18), (10, .int r18), (1, .int a0), (3, .int a2), (4, .int a3), (5, .ref ((x + 4) + 17)), (6, .int x_6), (8, .int x_8), (9, .int x_9)]) d_X9_greatest_132 (by decide) rfl ?_
    refine x_iload 8 d_X9_greatest_134 rfl ?_
    refine x_istore (lv2 := [(8, .int x_9), (7, .int r18), (10, .int r18), (1, .int a0), (3, .int a2), (4, .int a3), (5, .ref ((x + 4) + 17)), (6, .int x_6), (9, .int x_9)]) d_X9_greatest_136 (by decide) rfl ?_
    obtain ⟨x21, e_x21⟩ : ∃ z : Int32, z = x_9 + (1 : Int32) := ⟨_, rfl⟩
    have hQ := hQ x21 e_x21
    refine x_iinc (v := x21) (lv2 := [(9, .int x21), (8, .int x_9), (7, .int r18), (10, .int r18), (1, .int a0), (3, .int a2), (4, .int a3), (5, .ref ((x + 4) + 17)), (6, .int x_6)]) 8 d_X9_greatest_138 rfl (by rw [e_x21]; rfl) (by decide) rfl ?_
    refine x_goto (tgt := 90) d_X9_greatest_141 (by decide) ?_
    refine x_sub [4, 5, 6, 7, 8, 2, 1, 0] (lv2 := [(1, .int a0), (3, .int a2), (4, .int a3), (5, .ref ((x + 4) + 17)), (6, .int x_6), (7, .int r18), (8, .int x_9), (9, .int x21)]) rfl ?_
    exact hk_90 x_6 r18 x_9 x21 _ hX hF hQ
def lp_X9_greatest_90 (t : RT) (c : RT) (r : RT) (p : RT) (ct : Int32) (kp : Nat → Option Nat) (kr : Nat → RT) (sl : Nat → Option Nat) (sr : Nat → RT) (a0 : Int32) (a1 : Int32) (a2 : Int32) (a3 : Int32) (K : Int32 → Prop) : Nat → Int32 → Int32 → Int32 → Int32 → Prop
  | 0, _, _, _, _ => False
  | n + 1, x_6, x_7, x_8, x_9 => ((a2 < x_9 → ((¬ a3 = (0 : Int32) → K x_8) ∧ (a3 = (0 : Int32) → K x_7))) ∧ (¬ a2 < x_9 → wp_X4_endOf c x_6 (fun (r16 : Int32) => ((x_9 ≤ r16 → jp_X9_greatest_111 t c r p ct kp kr sl sr a0 a1 a2 a3 K (fun v0 v1 v2 v3 => lp_X9_greatest_90 t c r p ct kp kr sl sr a0 a1 a2 a3 K n v0 v1 v2 v3) x_6 x_7 x_8 x_9) ∧ (¬ x_9 ≤ r16 → ∀ x22 : Int32, x22 = x_6 + (1 : Int32) → jp_X9_greatest_111 t c r p ct kp kr sl sr a0 a1 a2 a3 K (fun v0 v1 v2 v3 => lp_X9_greatest_90 t c r p ct kp kr sl sr a0 a1 a2 a3 K n v0 v1 v2 v3) x22 x_7 x_8 x_9)))))
set_option maxHeartbeats 4000000 in
theorem jt_X9_greatest_90 {G : GX} {l : Launch} {d x : Nat} {wa : HW} {t : RT} {c : RT} {r : RT} {p : RT} {ct : Int32} {kp : Nat → Option Nat} {kr : Nat → RT} {sl : Nat → Option Nat} {sr : Nat → RT} {a0 : Int32} {a1 : Int32} {a2 : Int32} {a3 : Int32} {K : Int32 → Prop} (hd : 3 ≤ d) : ∀ (n : Nat) (x_6 : Int32) (x_7 : Int32) (x_8 : Int32) (x_9 : Int32) (w : HW), XW w x t c r p ct kp kr sl sr → Out x wa w → lp_X9_greatest_90 t c r p ct kp kr sl sr a0 a1 a2 a3 K n x_6 x_7 x_8 x_9 → X G l m_X9_greatest d 0 0 0 0 90 [(1, .int a0), (3, .int a2), (4, .int a3), (5, .ref ((x + 4) + 17)), (6, .int x_6), (7, .int x_7), (8, .int x_8), (9, .int x_9)] [] w (fun r9 w2 => ∃ (r1 : Int32), r9 = some (.int r1) ∧ XW w2 x t c r p ct kp kr sl sr ∧ Out x wa w2 ∧ K r1) := by
  intro n
  induction n with
  | zero =>
    intro x_6 x_7 x_8 x_9 w hX hF hQ
    exact hQ.elim
  | succ n ih =>
    intro x_6 x_7 x_8 x_9 w hX hF hQ
    refine x_iload 7 d_X9_greatest_90 rfl ?_
    refine x_iload_n 1 d_X9_greatest_92 rfl rfl ?_
    refine x_icmp_gt (tgt := 144) d_X9_greatest_93 (by decide) (fun c_93_14 => ?_) (fun c_93_14 => ?_)
    · have hQ := hQ.1 c_93_14
      refine x_iload 2 d_X9_greatest_144 rfl ?_
      refine x_if_ne (tgt := 154) d_X9_greatest_146 (by decide) (fun c_146_15 => ?_) (fun c_146_15 => ?_)
      · have hQ := hQ.1 c_146_15
        refine x_iload 6 d_X9_greatest_154 rfl ?_
        exact x_iret (retI d_X9_greatest_156 rfl) ⟨_, rfl, hX, hF, hQ⟩
      · have hQ := hQ.2 c_146_15
        refine x_iload 5 d_X9_greatest_149 rfl ?_
        refine x_goto (tgt := 156) d_X9_greatest_151 (by decide) ?_
        exact x_iret (retI d_X9_greatest_156 rfl) ⟨_, rfl, hX, hF, hQ⟩
    · have hQ := hQ.2 c_93_14
      refine x_iload 7 d_X9_greatest_96 rfl ?_
      refine x_aload 3 d_X9_greatest_98 rfl ?_
      refine x_iload 4 d_X9_greatest_100 rfl ?_
      have hsp := sp_X4_endOf (G := G) (l := l) (w := w) (a := (x + 4)) (s := c) (d := d - 1) (by omega) hQ
      rw [has_eq hX.hC] at hsp
      refine x_invV (rest := [.int x_9]) (d' := d - 1) (mc' := 0) (ms' := 0) [.int x_6] k_X4_endOf lk_X9_198 (hX.hC 17 (by decide)) rfl rfl rfl (Nat.le_of_ble_eq_true rfl) (by omega) (Nat.le_of_ble_eq_true rfl) (Nat.le_of_ble_eq_true rfl) d_X9_greatest_102 (hsp.mono (fun r w2 hr => ?_))
      obtain ⟨r16, rfl, rfl, hQ⟩ := hr
      refine x_icmp_le (tgt := 111) d_X9_greatest_105 (by decide) (fun c_105_17 => ?_) (fun c_105_17 => ?_)
      · have hQ := hQ.1 c_105_17
        refine x_sub [0, 1, 2, 3, 4, 5, 6, 7] (lv2 := [(1, .int a0), (3, .int a2), (4, .int a3), (5, .ref ((x + 4) + 17)), (6, .int x_6), (7, .int x_7), (8, .int x_8), (9, .int x_9)]) rfl ?_
        exact jt_X9_greatest_111 hd ih x_6 x_7 x_8 x_9 _ hX hF hQ
      · have hQ := hQ.2 c_105_17
        obtain ⟨x22, e_x22⟩ : ∃ z : Int32, z = x_6 + (1 : Int32) := ⟨_, rfl⟩
        have hQ := hQ x22 e_x22
        refine x_iinc (v := x22) (lv2 := [(6, .int x22), (1, .int a0), (3, .int a2), (4, .int a3), (5, .ref ((x + 4) + 17)), (7, .int x_7), (8, .int x_8), (9, .int x_9)]) 4 d_X9_greatest_108 rfl (by rw [e_x22]; rfl) (by decide) rfl ?_
        refine x_sub [1, 2, 3, 4, 0, 5, 6, 7] (lv2 := [(1, .int a0), (3, .int a2), (4, .int a3), (5, .ref ((x + 4) + 17)), (6, .int x22), (7, .int x_7), (8, .int x_8), (9, .int x_9)]) rfl ?_
        exact jt_X9_greatest_111 hd ih x22 x_7 x_8 x_9 _ hX hF hQ
def wp_X9_greatest (t : RT) (c : RT) (r : RT) (p : RT) (ct : Int32) (kp : Nat → Option Nat) (kr : Nat → RT) (sl : Nat → Option Nat) (sr : Nat → RT) (a0 : Int32) (a1 : Int32) (a2 : Int32) (a3 : Int32) (K : Int32 → Prop) : Prop := wp_X9_isVariable a0 (fun (r1 : Int32) => ((r1 = (0 : Int32) → K (-2000000001 : Int32)) ∧ (¬ r1 = (0 : Int32) → wp_X9_isWithin a1 (0 : Int32) (8000 : Int32) (fun (r3 : Int32) => ((r3 = (0 : Int32) → K (-2000000001 : Int32)) ∧ (¬ r3 = (0 : Int32) → wp_X9_isWithin a2 a1 (8000 : Int32) (fun (r5 : Int32) => ((r5 = (0 : Int32) → K (-2000000001 : Int32)) ∧ (¬ r5 = (0 : Int32) → wp_X9_isWithin a3 (0 : Int32) (1 : Int32) (fun (r7 : Int32) => ((¬ r7 = (0 : Int32) → wp_X4_endTime c (fun (r9 : Int32) => ((a2 ≤ r9 → wp_X4_stepTo c a1 (fun (r11 : Int32) => wp_X4_valueIn c r11 a0 a1 (fun (r12 : Int32) => ∀ x13 : Int32, x13 = a1 + (1 : Int32) → ∃ m : Nat, lp_X9_greatest_90 t c r p ct kp kr sl sr a0 a1 a2 a3 K m r11 r12 a1 x13))) ∧ (¬ a2 ≤ r9 → K (-2000000004 : Int32))))) ∧ (r7 = (0 : Int32) → K (-2000000001 : Int32)))))))))))))
set_option maxHeartbeats 4000000 in
theorem sp_X9_greatest {G : GX} {l : Launch} {d x : Nat} {w : HW} {t : RT} {c : RT} {r : RT} {p : RT} {ct : Int32} {kp : Nat → Option Nat} {kr : Nat → RT} {sl : Nat → Option Nat} {sr : Nat → RT} {a0 : Int32} {a1 : Int32} {a2 : Int32} {a3 : Int32} {K : Int32 → Prop} (hd : 3 ≤ d) (hX : XW w x t c r p ct kp kr sl sr) (hQ : wp_X9_greatest t c r p ct kp kr sl sr a0 a1 a2 a3 K) : Sp G l m_X9_greatest d 0 0 [.ref x, .int a0, .int a1, .int a2, .int a3] w (fun r9 w2 => ∃ (r1 : Int32), r9 = some (.int r1) ∧ XW w2 x t c r p ct kp kr sl sr ∧ Out x w w2 ∧ K r1) := by
  refine Sp.ofX k_X9_greatest.1.1 (Nat.le_of_ble_eq_true rfl) ?_
  refine X.lv (lv2 := [(0, .ref x), (1, .int a0), (2, .int a1), (3, .int a2), (4, .int a3)]) rfl ?_
  have hF : Out x w w := Out.rf
  refine x_iload_n 1 d_X9_greatest_0 rfl rfl ?_
  refine x_invS (rest := []) (d' := d - 1) (mc' := 0) (ms' := 0) [.int a0] k_X9_isVariable lk_X9_63 rfl rfl (Nat.le_of_ble_eq_true rfl) (by omega) (Nat.le_of_ble_eq_true rfl) (Nat.le_of_ble_eq_true rfl) d_X9_greatest_1 ((sp_X9_isVariable (w := w) (d := d - 1) (by omega) hQ).mono (fun r w2 hr => ?_))
  obtain ⟨r1, rfl, rfl, hQ⟩ := hr
  refine x_if_eq (tgt := 39) d_X9_greatest_4 (by decide) (fun c_4_2 => ?_) (fun c_4_2 => ?_)
  · have hQ := hQ.1 c_4_2
    refine x_ldc (v := (-2000000001 : Int32)) kc_X9_45 d_X9_greatest_39 ?_
    exact x_iret (retI d_X9_greatest_41 rfl) ⟨_, rfl, hX, hF, hQ⟩
  · have hQ := hQ.2 c_4_2
    refine x_iload_n 2 d_X9_greatest_7 rfl rfl ?_
    refine x_iconst (v := (0 : Int32)) d_X9_greatest_8 (by decide) ?_
    refine x_sipush (v := (8000 : Int32)) d_X9_greatest_9 (by decide) ?_
    refine x_invS (rest := []) (d' := d - 1) (mc' := 0) (ms' := 0) [.int a1, .int (0 : Int32), .int (8000 : Int32)] k_X9_isWithin lk_X9_41 rfl rfl (Nat.le_of_ble_eq_true rfl) (by omega) (Nat.le_of_ble_eq_true rfl) (Nat.le_of_ble_eq_true rfl) d_X9_greatest_12 ((sp_X9_isWithin (w := w2) (d := d - 1) (by omega) hQ).mono (fun r w2 hr => ?_))
    obtain ⟨r3, rfl, rfl, hQ⟩ := hr
    refine x_if_eq (tgt := 39) d_X9_greatest_15 (by decide) (fun c_15_4 => ?_) (fun c_15_4 => ?_)
    · have hQ := hQ.1 c_15_4
      refine x_ldc (v := (-2000000001 : Int32)) kc_X9_45 d_X9_greatest_39 ?_
      exact x_iret (retI d_X9_greatest_41 rfl) ⟨_, rfl, hX, hF, hQ⟩
    · have hQ := hQ.2 c_15_4
      refine x_iload_n 3 d_X9_greatest_18 rfl rfl ?_
      refine x_iload_n 2 d_X9_greatest_19 rfl rfl ?_
      refine x_sipush (v := (8000 : Int32)) d_X9_greatest_20 (by decide) ?_
      refine x_invS (rest := []) (d' := d - 1) (mc' := 0) (ms' := 0) [.int a2, .int a1, .int (8000 : Int32)] k_X9_isWithin lk_X9_41 rfl rfl (Nat.le_of_ble_eq_true rfl) (by omega) (Nat.le_of_ble_eq_true rfl) (Nat.le_of_ble_eq_true rfl) d_X9_greatest_23 ((sp_X9_isWithin (w := w2) (d := d - 1) (by omega) hQ).mono (fun r w2 hr => ?_))
      obtain ⟨r5, rfl, rfl, hQ⟩ := hr
      refine x_if_eq (tgt := 39) d_X9_greatest_26 (by decide) (fun c_26_6 => ?_) (fun c_26_6 => ?_)
      · have hQ := hQ.1 c_26_6
        refine x_ldc (v := (-2000000001 : Int32)) kc_X9_45 d_X9_greatest_39 ?_
        exact x_iret (retI d_X9_greatest_41 rfl) ⟨_, rfl, hX, hF, hQ⟩
      · have hQ := hQ.2 c_26_6
        refine x_iload 4 d_X9_greatest_29 rfl ?_
        refine x_iconst (v := (0 : Int32)) d_X9_greatest_31 (by decide) ?_
        refine x_iconst (v := (1 : Int32)) d_X9_greatest_32 (by decide) ?_
        refine x_invS (rest := []) (d' := d - 1) (mc' := 0) (ms' := 0) [.int a3, .int (0 : Int32), .int (1 : Int32)] k_X9_isWithin lk_X9_41 rfl rfl (Nat.le_of_ble_eq_true rfl) (by omega) (Nat.le_of_ble_eq_true rfl) (Nat.le_of_ble_eq_true rfl) d_X9_greatest_33 ((sp_X9_isWithin (w := w2) (d := d - 1) (by omega) hQ).mono (fun r w2 hr => ?_))
        obtain ⟨r7, rfl, rfl, hQ⟩ := hr
        refine x_if_ne (tgt := 42) d_X9_greatest_36 (by decide) (fun c_36_8 => ?_) (fun c_36_8 => ?_)
        · have hQ := hQ.1 c_36_8
          refine x_aload_n 0 d_X9_greatest_42 rfl rfl ?_
          refine x_getf 1 gf_X9_19 hX.1 rfl d_X9_greatest_43 ?_
          refine x_getfN 5 gf_X9_165 (hX.hC 0 (by decide)) rfl d_X9_greatest_46 ?_
          refine x_astore (lv2 := [(5, .ref ((x + 4) + 17)), (0, .ref x), (1, .int a0), (2, .int a1), (3, .int a2), (4, .int a3)]) d_X9_greatest_49 (by decide) rfl ?_
          refine x_iload_n 4 d_X9_greatest_51 rfl rfl ?_
          refine x_aload 0 d_X9_greatest_52 rfl ?_
          have hsp := sp_X4_endTime (G := G) (l := l) (w := w2) (a := (x + 4)) (s := c) (d := d - 1) (by omega) hQ
          rw [has_eq hX.hC] at hsp
          refine x_invV (rest := [.int a2]) (d' := d - 1) (mc' := 0) (ms' := 0) [] k_X4_endTime lk_X9_169 (hX.hC 17 (by decide)) rfl rfl rfl (Nat.le_of_ble_eq_true rfl) (by omega) (Nat.le_of_ble_eq_true rfl) (Nat.le_of_ble_eq_true rfl) d_X9_greatest_54 (hsp.mono (fun r w2 hr => ?_))
          obtain ⟨r9, rfl, rfl, hQ⟩ := hr
          refine x_icmp_le (tgt := 63) d_X9_greatest_57 (by decide) (fun c_57_10 => ?_) (fun c_57_10 => ?_)
          · have hQ := hQ.1 c_57_10
            refine x_aload 0 d_X9_greatest_63 rfl ?_
            refine x_iload_n 3 d_X9_greatest_65 rfl rfl ?_
            have hsp := sp_X4_stepTo (G := G) (l := l) (w := w2) (a := (x + 4)) (s := c) (d := d - 1) (by omega) hQ
            rw [has_eq hX.hC] at hsp
            refine x_invV (rest := []) (d' := d - 1) (mc' := 0) (ms' := 0) [.int a1] k_X4_stepTo lk_X9_178 (hX.hC 17 (by decide)) rfl rfl rfl (Nat.le_of_ble_eq_true rfl) (by omega) (Nat.le_of_ble_eq_true rfl) (Nat.le_of_ble_eq_true rfl) d_X9_greatest_66 (hsp.mono (fun r w2 hr => ?_))
            obtain ⟨r11, rfl, rfl, hQ⟩ := hr
            refine x_istore (lv2 := [(6, .int r11), (5, .ref ((x + 4) + 17)), (0, .ref x), (1, .int a0), (2, .int a1), (3, .int a2), (4, .int a3)]) d_X9_greatest_69 (by decide) rfl ?_
            refine x_aload 1 d_X9_greatest_71 rfl ?_
            refine x_iload 0 d_X9_greatest_73 rfl ?_
            refine x_iload_n 3 d_X9_greatest_75 rfl rfl ?_
            refine x_iload_n 4 d_X9_greatest_76 rfl rfl ?_
            have hsp := sp_X4_valueIn (G := G) (l := l) (w := w2) (a := (x + 4)) (s := c) (d := d - 1) (by omega) hQ
            rw [has_eq hX.hC] at hsp
            refine x_invV (rest := []) (d' := d - 1) (mc' := 0) (ms' := 0) [.int r11, .int a0, .int a1] k_X4_valueIn lk_X9_209 (hX.hC 17 (by decide)) rfl rfl rfl (Nat.le_of_ble_eq_true rfl) (by omega) (Nat.le_of_ble_eq_true rfl) (Nat.le_of_ble_eq_true rfl) d_X9_greatest_77 (hsp.mono (fun r w2 hr => ?_))
            obtain ⟨r12, rfl, rfl, hQ⟩ := hr
            refine x_istore (lv2 := [(7, .int r12), (6, .int r11), (5, .ref ((x + 4) + 17)), (0, .ref x), (1, .int a0), (2, .int a1), (3, .int a2), (4, .int a3)]) d_X9_greatest_80 (by decide) rfl ?_
            refine x_iload_n 5 d_X9_greatest_82 rfl rfl ?_
            refine x_istore (lv2 := [(8, .int a1), (7, .int r12), (6, .int r11), (5, .ref ((x + 4) + 17)), (0, .ref x), (1, .int a0), (2, .int a1), (3, .int a2), (4, .int a3)]) d_X9_greatest_83 (by decide) rfl ?_
            refine x_iload_n 6 d_X9_greatest_85 rfl rfl ?_
            refine x_iconst (v := (1 : Int32)) d_X9_greatest_86 (by decide) ?_
            refine x_iadd d_X9_greatest_87 ?_
            refine x_topi (fun x13 e_x13 => ?_)
            have hQ := hQ x13 e_x13
            refine x_istore (lv2 := [(9, .int x13), (8, .int a1), (7, .int r12), (6, .int r11), (5, .ref ((x + 4) + 17)), (0, .ref x), (1, .int a0), (2, .int a1), (3, .int a2), (4, .int a3)]) d_X9_greatest_88 (by decide) rfl ?_
            refine x_sub [6, 8, 9, 4, 3, 2, 1, 0] (lv2 := [(1, .int a0), (3, .int a2), (4, .int a3), (5, .ref ((x + 4) + 17)), (6, .int r11), (7, .int r12), (8, .int a1), (9, .int x13)]) rfl ?_
            obtain ⟨m, hQ⟩ := hQ
            exact jt_X9_greatest_90 hd m r11 r12 a1 x13 _ hX hF hQ
          · have hQ := hQ.2 c_57_10
            refine x_ldc (v := (-2000000004 : Int32)) kc_X9_62 d_X9_greatest_60 ?_
            exact x_iret (retI d_X9_greatest_62 rfl) ⟨_, rfl, hX, hF, hQ⟩
        · have hQ := hQ.2 c_36_8
          refine x_ldc (v := (-2000000001 : Int32)) kc_X9_45 d_X9_greatest_39 ?_
          exact x_iret (retI d_X9_greatest_41 rfl) ⟨_, rfl, hX, hF, hQ⟩
def jp_X9_count_76 (t : RT) (c : RT) (r : RT) (p : RT) (ct : Int32) (kp : Nat → Option Nat) (kr : Nat → RT) (sl : Nat → Option Nat) (sr : Nat → RT) (a0 : Int32) (K : Int32 → Prop) : Prop := wp_X9_pick 3 (c.1 12) a0 (fun (r1 : Int32) => K r1)
set_option maxHeartbeats 4000000 in
theorem jt_X9_count_76 {G : GX} {l : Launch} {d x : Nat} {wa : HW} {t : RT} {c : RT} {r : RT} {p : RT} {ct : Int32} {kp : Nat → Option Nat} {kr : Nat → RT} {sl : Nat → Option Nat} {sr : Nat → RT} {a0 : Int32} {K : Int32 → Prop} (hd : 3 ≤ d) (w : HW) (hX : XW w x t c r p ct kp kr sl sr) (hF : Out x wa w) (hQ : jp_X9_count_76 t c r p ct kp kr sl sr a0 K) : X G l m_X9_count d 0 0 0 0 76 [(0, .ref x), (1, .int a0)] [] w (fun r9 w2 => ∃ (r1 : Int32), r9 = some (.int r1) ∧ XW w2 x t c r p ct kp kr sl sr ∧ Out x wa w2 ∧ K r1) := by
  refine x_aload_n 0 d_X9_count_76 rfl rfl ?_
  refine x_getf 1 gf_X9_19 hX.1 rfl d_X9_count_77 ?_
  refine x_getfN 3 gf_X9_140 (hX.hC 0 (by decide)) rfl d_X9_count_80 ?_
  refine x_iload_n 1 d_X9_count_83 rfl rfl ?_
  refine x_invS (rest := []) (d' := d - 1) (mc' := 0) (ms' := 0) [.ref ((x + 4) + 12), .int a0] k_X9_pick lk_X9_88 rfl rfl (Nat.le_of_ble_eq_true rfl) (by omega) (Nat.le_of_ble_eq_true rfl) (Nat.le_of_ble_eq_true rfl) d_X9_count_84 ((sp_X9_pick (w := w) (d := d - 1) (by omega) (hX.hC 12 (by decide)) hQ).mono (fun r w2 hr => ?_))
  obtain ⟨r1, rfl, rfl, hQ⟩ := hr
  exact x_iret (retI d_X9_count_87 rfl) ⟨_, rfl, hX, hF, hQ⟩
def jp_X9_count_137 (t : RT) (c : RT) (r : RT) (p : RT) (ct : Int32) (kp : Nat → Option Nat) (kr : Nat → RT) (sl : Nat → Option Nat) (sr : Nat → RT) (a0 : Int32) (K : Int32 → Prop) : Prop := wp_X9_pick 3 (c.1 9) (a0 - (8 : Int32)) (fun (r3 : Int32) => K r3)
set_option maxHeartbeats 4000000 in
theorem jt_X9_count_137 {G : GX} {l : Launch} {d x : Nat} {wa : HW} {t : RT} {c : RT} {r : RT} {p : RT} {ct : Int32} {kp : Nat → Option Nat} {kr : Nat → RT} {sl : Nat → Option Nat} {sr : Nat → RT} {a0 : Int32} {K : Int32 → Prop} (hd : 3 ≤ d) (w : HW) (hX : XW w x t c r p ct kp kr sl sr) (hF : Out x wa w) (hQ : jp_X9_count_137 t c r p ct kp kr sl sr a0 K) : X G l m_X9_count d 0 0 0 0 137 [(0, .ref x), (1, .int a0)] [] w (fun r9 w2 => ∃ (r1 : Int32), r9 = some (.int r1) ∧ XW w2 x t c r p ct kp kr sl sr ∧ Out x wa w2 ∧ K r1) := by
  refine x_aload_n 0 d_X9_count_137 rfl rfl ?_
  refine x_getf 1 gf_X9_19 hX.1 rfl d_X9_count_138 ?_
  refine x_getfN 2 gf_X9_117 (hX.hC 0 (by decide)) rfl d_X9_count_141 ?_
  refine x_getfN 0 gf_X9_127 (hX.hC 8 (by decide)) rfl d_X9_count_144 ?_
  refine x_iload_n 1 d_X9_count_147 rfl rfl ?_
  refine x_bipush (v := (8 : Int32)) d_X9_count_148 (by decide) ?_
  refine x_isub d_X9_count_150 ?_
  refine x_invS (rest := []) (d' := d - 1) (mc' := 0) (ms' := 0) [.ref ((x + 4) + 9), .int (a0 - (8 : Int32))] k_X9_pick lk_X9_88 rfl rfl (Nat.le_of_ble_eq_true rfl) (by omega) (Nat.le_of_ble_eq_true rfl) (Nat.le_of_ble_eq_true rfl) d_X9_count_151 ((sp_X9_pick (w := w) (d := d - 1) (by omega) (hX.hC 9 (by decide)) hQ).mono (fun r w2 hr => ?_))
  obtain ⟨r3, rfl, rfl, hQ⟩ := hr
  exact x_iret (retI d_X9_count_154 rfl) ⟨_, rfl, hX, hF, hQ⟩
def jp_X9_count_155 (t : RT) (c : RT) (r : RT) (p : RT) (ct : Int32) (kp : Nat → Option Nat) (kr : Nat → RT) (sl : Nat → Option Nat) (sr : Nat → RT) (a0 : Int32) (K : Int32 → Prop) : Prop := wp_X9_pick 3 (c.1 7) (a0 - (11 : Int32)) (fun (r4 : Int32) => K r4)
set_option maxHeartbeats 4000000 in
theorem jt_X9_count_155 {G : GX} {l : Launch} {d x : Nat} {wa : HW} {t : RT} {c : RT} {r : RT} {p : RT} {ct : Int32} {kp : Nat → Option Nat} {kr : Nat → RT} {sl : Nat → Option Nat} {sr : Nat → RT} {a0 : Int32} {K : Int32 → Prop} (hd : 3 ≤ d) (w : HW) (hX : XW w x t c r p ct kp kr sl sr) (hF : Out x wa w) (hQ : jp_X9_count_155 t c r p ct kp kr sl sr a0 K) : X G l m_X9_count d 0 0 0 0 155 [(0, .ref x), (1, .int a0)] [] w (fun r9 w2 => ∃ (r1 : Int32), r9 = some (.int r1) ∧ XW w2 x t c r p ct kp kr sl sr ∧ Out x wa w2 ∧ K r1) := by
  refine x_aload_n 0 d_X9_count_155 rfl rfl ?_
  refine x_getf 1 gf_X9_19 hX.1 rfl d_X9_count_156 ?_
  refine x_getfN 1 gf_X9_99 (hX.hC 0 (by decide)) rfl d_X9_count_159 ?_
  refine x_getfN 1 gf_X9_112 (hX.hC 5 (by decide)) rfl d_X9_count_162 ?_
  refine x_iload_n 1 d_X9_count_165 rfl rfl ?_
  refine x_bipush (v := (11 : Int32)) d_X9_count_166 (by decide) ?_
  refine x_isub d_X9_count_168 ?_
  refine x_invS (rest := []) (d' := d - 1) (mc' := 0) (ms' := 0) [.ref ((x + 4) + 7), .int (a0 - (11 : Int32))] k_X9_pick lk_X9_88 rfl rfl (Nat.le_of_ble_eq_true rfl) (by omega) (Nat.le_of_ble_eq_true rfl) (Nat.le_of_ble_eq_true rfl) d_X9_count_169 ((sp_X9_pick (w := w) (d := d - 1) (by omega) (hX.hC 7 (by decide)) hQ).mono (fun r w2 hr => ?_))
  obtain ⟨r4, rfl, rfl, hQ⟩ := hr
  exact x_iret (retI d_X9_count_172 rfl) ⟨_, rfl, hX, hF, hQ⟩
def wp_X9_count (t : RT) (c : RT) (r : RT) (p : RT) (ct : Int32) (kp : Nat → Option Nat) (kr : Nat → RT) (sl : Nat → Option Nat) (sr : Nat → RT) (a0 : Int32) (K : Int32 → Prop) : Prop := ((a0 = (0 : Int32) → jp_X9_count_76 t c r p ct kp kr sl sr a0 K ) ∧ (¬ a0 = (0 : Int32) → ((a0 = (1 : Int32) → jp_X9_count_76 t c r p ct kp kr sl sr a0 K ) ∧ (¬ a0 = (1 : Int32) → ((a0 = (2 : Int32) → jp_X9_count_76 t c r p ct kp kr sl sr a0 K ) ∧ (¬ a0 = (2 : Int32) → ((a0 = (3 : Int32) → wp_X4_endTime c (fun (r2 : Int32) => K r2)) ∧ (¬ a0 = (3 : Int32) → ((a0 = (4 : Int32) → K (c.2.2 1)) ∧ (¬ a0 = (4 : Int32) → ((a0 = (5 : Int32) → K (c.2.2 0)) ∧ (¬ a0 = (5 : Int32) → ((a0 = (6 : Int32) → K (t.2.2 1)) ∧ (¬ a0 = (6 : Int32) → ((a0 = (7 : Int32) → K ct) ∧ (¬ a0 = (7 : Int32) → ((a0 = (8 : Int32) → jp_X9_count_137 t c r p ct kp kr sl sr a0 K ) ∧ (¬ a0 = (8 : Int32) → ((a0 = (9 : Int32) → jp_X9_count_137 t c r p ct kp kr sl sr a0 K ) ∧ (¬ a0 = (9 : Int32) → ((a0 = (10 : Int32) → jp_X9_count_137 t c r p ct kp kr sl sr a0 K ) ∧ (¬ a0 = (10 : Int32) → ((a0 = (11 : Int32) → jp_X9_count_155 t c r p ct kp kr sl sr a0 K ) ∧ (¬ a0 = (11 : Int32) → ((a0 = (12 : Int32) → jp_X9_count_155 t c r p ct kp kr sl sr a0 K ) ∧ (¬ a0 = (12 : Int32) → ((a0 = (13 : Int32) → jp_X9_count_155 t c r p ct kp kr sl sr a0 K ) ∧ (¬ a0 = (13 : Int32) → ((a0 = (14 : Int32) → wp_X5_allOperands c (fun (r5 : Int32) => wp_X9_delaysIn r5 (fun (r6 : Int32) => K r6))) ∧ (¬ a0 = (14 : Int32) → (K (-2000000001 : Int32))))))))))))))))))))))))))))))))
set_option maxHeartbeats 4000000 in
theorem sp_X9_count {G : GX} {l : Launch} {d x : Nat} {w : HW} {t : RT} {c : RT} {r : RT} {p : RT} {ct : Int32} {kp : Nat → Option Nat} {kr : Nat → RT} {sl : Nat → Option Nat} {sr : Nat → RT} {a0 : Int32} {K : Int32 → Prop} (hd : 3 ≤ d) (hX : XW w x t c r p ct kp kr sl sr) (hQ : wp_X9_count t c r p ct kp kr sl sr a0 K) : Sp G l m_X9_count d 0 0 [.ref x, .int a0] w (fun r9 w2 => ∃ (r1 : Int32), r9 = some (.int r1) ∧ XW w2 x t c r p ct kp kr sl sr ∧ Out x w w2 ∧ K r1) := by
  refine Sp.ofX k_X9_count.1.1 (Nat.le_of_ble_eq_true rfl) ?_
  refine X.lv (lv2 := [(0, .ref x), (1, .int a0)]) rfl ?_
  have hF : Out x w w := Out.rf
  refine x_iload_n 1 d_X9_count_0 rfl rfl ?_
  by_cases c_1_0 : a0 = (0 : Int32)
  · have hQ := hQ.1 c_1_0
    refine x_tableIn (off := (75 : Int)) (tgt := 76) d_X9_count_1 (by rw [c_1_0]; decide) (by rw [c_1_0]; decide) (by rw [c_1_0]; rfl) (by decide) ?_
    refine x_sub [0, 1] (lv2 := [(0, .ref x), (1, .int a0)]) rfl ?_
    exact jt_X9_count_76 hd  _ hX hF hQ
  · have hQ := hQ.2 c_1_0
    by_cases c_1_1 : a0 = (1 : Int32)
    · have hQ := hQ.1 c_1_1
      refine x_tableIn (off := (75 : Int)) (tgt := 76) d_X9_count_1 (by rw [c_1_1]; decide) (by rw [c_1_1]; decide) (by rw [c_1_1]; rfl) (by decide) ?_
      refine x_sub [0, 1] (lv2 := [(0, .ref x), (1, .int a0)]) rfl ?_
      exact jt_X9_count_76 hd  _ hX hF hQ
    · have hQ := hQ.2 c_1_1
      by_cases c_1_2 : a0 = (2 : Int32)
      · have hQ := hQ.1 c_1_2
        refine x_tableIn (off := (75 : Int)) (tgt := 76) d_X9_count_1 (by rw [c_1_2]; decide) (by rw [c_1_2]; decide) (by rw [c_1_2]; rfl) (by decide) ?_
        refine x_sub [0, 1] (lv2 := [(0, .ref x), (1, .int a0)]) rfl ?_
        exact jt_X9_count_76 hd  _ hX hF hQ
      · have hQ := hQ.2 c_1_2
        by_cases c_1_3 : a0 = (3 : Int32)
        · have hQ := hQ.1 c_1_3
          refine x_tableIn (off := (87 : Int)) (tgt := 88) d_X9_count_1 (by rw [c_1_3]; decide) (by rw [c_1_3]; decide) (by rw [c_1_3]; rfl) (by decide) ?_
          refine x_aload_n 0 d_X9_count_88 rfl rfl ?_
          refine x_getf 1 gf_X9_19 hX.1 rfl d_X9_count_89 ?_
          refine x_getfN 5 gf_X9_165 (hX.hC 0 (by decide)) rfl d_X9_count_92 ?_
          have hsp := sp_X4_endTime (G := G) (l := l) (w := w) (a := (x + 4)) (s := c) (d := d - 1) (by omega) hQ
          rw [has_eq hX.hC] at hsp
          refine x_invV (rest := []) (d' := d - 1) (mc' := 0) (ms' := 0) [] k_X4_endTime lk_X9_169 (hX.hC 17 (by decide)) rfl rfl rfl (Nat.le_of_ble_eq_true rfl) (by omega) (Nat.le_of_ble_eq_true rfl) (Nat.le_of_ble_eq_true rfl) d_X9_count_95 (hsp.mono (fun r w2 hr => ?_))
          obtain ⟨r2, rfl, rfl, hQ⟩ := hr
          exact x_iret (retI d_X9_count_98 rfl) ⟨_, rfl, hX, hF, hQ⟩
        · have hQ := hQ.2 c_1_3
          by_cases c_1_4 : a0 = (4 : Int32)
          · have hQ := hQ.1 c_1_4
            refine x_tableIn (off := (98 : Int)) (tgt := 99) d_X9_count_1 (by rw [c_1_4]; decide) (by rw [c_1_4]; decide) (by rw [c_1_4]; rfl) (by decide) ?_
            refine x_aload_n 0 d_X9_count_99 rfl rfl ?_
            refine x_getf 1 gf_X9_19 hX.1 rfl d_X9_count_100 ?_
            refine x_getfN 5 gf_X9_165 (hX.hC 0 (by decide)) rfl d_X9_count_103 ?_
            refine x_getfN 1 gf_X9_192 (hX.hC 17 (by decide)) rfl d_X9_count_106 ?_
            exact x_iret (retI d_X9_count_109 rfl) ⟨_, rfl, hX, hF, hQ⟩
          · have hQ := hQ.2 c_1_4
            by_cases c_1_5 : a0 = (5 : Int32)
            · have hQ := hQ.1 c_1_5
              refine x_tableIn (off := (109 : Int)) (tgt := 110) d_X9_count_1 (by rw [c_1_5]; decide) (by rw [c_1_5]; decide) (by rw [c_1_5]; rfl) (by decide) ?_
              refine x_aload_n 0 d_X9_count_110 rfl rfl ?_
              refine x_getf 1 gf_X9_19 hX.1 rfl d_X9_count_111 ?_
              refine x_getfN 4 gf_X9_147 (hX.hC 0 (by decide)) rfl d_X9_count_114 ?_
              refine x_getfN 3 gf_X9_151 (hX.hC 13 (by decide)) rfl d_X9_count_117 ?_
              exact x_iret (retI d_X9_count_120 rfl) ⟨_, rfl, hX, hF, hQ⟩
            · have hQ := hQ.2 c_1_5
              by_cases c_1_6 : a0 = (6 : Int32)
              · have hQ := hQ.1 c_1_6
                refine x_tableIn (off := (120 : Int)) (tgt := 121) d_X9_count_1 (by rw [c_1_6]; decide) (by rw [c_1_6]; decide) (by rw [c_1_6]; rfl) (by decide) ?_
                refine x_aload_n 0 d_X9_count_121 rfl rfl ?_
                refine x_getf 0 gf_X9_12 hX.1 rfl d_X9_count_122 ?_
                refine x_getfN 1 gf_X9_50 (hX.hT 0 (by decide)) rfl d_X9_count_125 ?_
                exact x_iret (retI d_X9_count_128 rfl) ⟨_, rfl, hX, hF, hQ⟩
              · have hQ := hQ.2 c_1_6
                by_cases c_1_7 : a0 = (7 : Int32)
                · have hQ := hQ.1 c_1_7
                  refine x_tableIn (off := (128 : Int)) (tgt := 129) d_X9_count_1 (by rw [c_1_7]; decide) (by rw [c_1_7]; decide) (by rw [c_1_7]; rfl) (by decide) ?_
                  refine x_aload_n 0 d_X9_count_129 rfl rfl ?_
                  refine x_getf 2 gf_X9_26 hX.1 rfl d_X9_count_130 ?_
                  refine x_getfN 1 gf_X9_233 hX.hK0 rfl d_X9_count_133 ?_
                  exact x_iret (retI d_X9_count_136 rfl) ⟨_, rfl, hX, hF, hQ⟩
                · have hQ := hQ.2 c_1_7
                  by_cases c_1_8 : a0 = (8 : Int32)
                  · have hQ := hQ.1 c_1_8
                    refine x_tableIn (off := (136 : Int)) (tgt := 137) d_X9_count_1 (by rw [c_1_8]; decide) (by rw [c_1_8]; decide) (by rw [c_1_8]; rfl) (by decide) ?_
                    refine x_sub [0, 1] (lv2 := [(0, .ref x), (1, .int a0)]) rfl ?_
                    exact jt_X9_count_137 hd  _ hX hF hQ
                  · have hQ := hQ.2 c_1_8
                    by_cases c_1_9 : a0 = (9 : Int32)
                    · have hQ := hQ.1 c_1_9
                      refine x_tableIn (off := (136 : Int)) (tgt := 137) d_X9_count_1 (by rw [c_1_9]; decide) (by rw [c_1_9]; decide) (by rw [c_1_9]; rfl) (by decide) ?_
                      refine x_sub [0, 1] (lv2 := [(0, .ref x), (1, .int a0)]) rfl ?_
                      exact jt_X9_count_137 hd  _ hX hF hQ
                    · have hQ := hQ.2 c_1_9
                      by_cases c_1_10 : a0 = (10 : Int32)
                      · have hQ := hQ.1 c_1_10
                        refine x_tableIn (off := (136 : Int)) (tgt := 137) d_X9_count_1 (by rw [c_1_10]; decide) (by rw [c_1_10]; decide) (by rw [c_1_10]; rfl) (by decide) ?_
                        refine x_sub [0, 1] (lv2 := [(0, .ref x), (1, .int a0)]) rfl ?_
                        exact jt_X9_count_137 hd  _ hX hF hQ
                      · have hQ := hQ.2 c_1_10
                        by_cases c_1_11 : a0 = (11 : Int32)
                        · have hQ := hQ.1 c_1_11
                          refine x_tableIn (off := (154 : Int)) (tgt := 155) d_X9_count_1 (by rw [c_1_11]; decide) (by rw [c_1_11]; decide) (by rw [c_1_11]; rfl) (by decide) ?_
                          refine x_sub [0, 1] (lv2 := [(0, .ref x), (1, .int a0)]) rfl ?_
                          exact jt_X9_count_155 hd  _ hX hF hQ
                        · have hQ := hQ.2 c_1_11
                          by_cases c_1_12 : a0 = (12 : Int32)
                          · have hQ := hQ.1 c_1_12
                            refine x_tableIn (off := (154 : Int)) (tgt := 155) d_X9_count_1 (by rw [c_1_12]; decide) (by rw [c_1_12]; decide) (by rw [c_1_12]; rfl) (by decide) ?_
                            refine x_sub [0, 1] (lv2 := [(0, .ref x), (1, .int a0)]) rfl ?_
                            exact jt_X9_count_155 hd  _ hX hF hQ
                          · have hQ := hQ.2 c_1_12
                            by_cases c_1_13 : a0 = (13 : Int32)
                            · have hQ := hQ.1 c_1_13
                              refine x_tableIn (off := (154 : Int)) (tgt := 155) d_X9_count_1 (by rw [c_1_13]; decide) (by rw [c_1_13]; decide) (by rw [c_1_13]; rfl) (by decide) ?_
                              refine x_sub [0, 1] (lv2 := [(0, .ref x), (1, .int a0)]) rfl ?_
                              exact jt_X9_count_155 hd  _ hX hF hQ
                            · have hQ := hQ.2 c_1_13
                              by_cases c_1_14 : a0 = (14 : Int32)
                              · have hQ := hQ.1 c_1_14
                                refine x_tableIn (off := (172 : Int)) (tgt := 173) d_X9_count_1 (by rw [c_1_14]; decide) (by rw [c_1_14]; decide) (by rw [c_1_14]; rfl) (by decide) ?_
                                refine x_aload_n 0 d_X9_count_173 rfl rfl ?_
                                refine x_getf 1 gf_X9_19 hX.1 rfl d_X9_count_174 ?_
                                refine x_getfN 0 gf_X9_71 (hX.hC 0 (by decide)) rfl d_X9_count_177 ?_
                                have hsp := sp_X5_allOperands (G := G) (l := l) (w := w) (a := (x + 4)) (s := c) (d := d - 1) (by omega) hQ
                                rw [has_eq hX.hC] at hsp
                                refine x_invV (rest := []) (d' := d - 1) (mc' := 0) (ms' := 0) [] k_X5_allOperands lk_X9_234 (hX.hC 1 (by decide)) rfl rfl rfl (Nat.le_of_ble_eq_true rfl) (by omega) (Nat.le_of_ble_eq_true rfl) (Nat.le_of_ble_eq_true rfl) d_X9_count_180 (hsp.mono (fun r w2 hr => ?_))
                                obtain ⟨r5, rfl, rfl, hQ⟩ := hr
                                refine x_invS (rest := []) (d' := d - 1) (mc' := 0) (ms' := 0) [.int r5] k_X9_delaysIn lk_X9_92 rfl rfl (Nat.le_of_ble_eq_true rfl) (by omega) (Nat.le_of_ble_eq_true rfl) (Nat.le_of_ble_eq_true rfl) d_X9_count_183 ((sp_X9_delaysIn (w := w2) (d := d - 1) (by omega) hQ).mono (fun r w2 hr => ?_))
                                obtain ⟨r6, rfl, rfl, hQ⟩ := hr
                                exact x_iret (retI d_X9_count_186 rfl) ⟨_, rfl, hX, hF, hQ⟩
                              · have hQ := hQ.2 c_1_14
                                refine x_tableOut (tgt := 187) d_X9_count_1 (sw_out 0 14 a0 (fun v h1 h2 => by
                                    have h3 : v = 0 ∨ v = 1 ∨ v = 2 ∨ v = 3 ∨ v = 4 ∨ v = 5 ∨ v = 6 ∨ v = 7 ∨ v = 8 ∨ v = 9 ∨ v = 10 ∨ v = 11 ∨ v = 12 ∨ v = 13 ∨ v = 14 := by omega
                                    rcases h3 with rfl | rfl | rfl | rfl | rfl | rfl | rfl | rfl | rfl | rfl | rfl | rfl | rfl | rfl | rfl <;> first | exact sw_ne c_1_0 (by decide) | exact sw_ne c_1_1 (by decide) | exact sw_ne c_1_2 (by decide) | exact sw_ne c_1_3 (by decide) | exact sw_ne c_1_4 (by decide) | exact sw_ne c_1_5 (by decide) | exact sw_ne c_1_6 (by decide) | exact sw_ne c_1_7 (by decide) | exact sw_ne c_1_8 (by decide) | exact sw_ne c_1_9 (by decide) | exact sw_ne c_1_10 (by decide) | exact sw_ne c_1_11 (by decide) | exact sw_ne c_1_12 (by decide) | exact sw_ne c_1_13 (by decide) | exact sw_ne c_1_14 (by decide))) (by decide) ?_
                                refine x_ldc (v := (-2000000001 : Int32)) kc_X9_45 d_X9_count_187 ?_
                                exact x_iret (retI d_X9_count_189 rfl) ⟨_, rfl, hX, hF, hQ⟩
