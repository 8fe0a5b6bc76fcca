def wp_X9_pick (z : Nat) (f : Nat → Int32) (i : Int32) (K : Int32 → Prop) : Prop := ((i < (0 : Int32) → K (0 : Int32)) ∧ (¬ i < (0 : Int32) → (((nI z) ≤ i → K (0 : Int32)) ∧ (¬ (nI z) ≤ i → vp_in i z ∧ K (f i.toNatClampNeg)))))
set_option maxHeartbeats 4000000 in
theorem sp_X9_pick {G : GX} {l : Launch} {d : Nat} {w : HW} {a : Nat} {z : Nat} {f : Nat → Int32} {i : Int32} {K : Int32 → Prop} (hd : 0 ≤ d) (ha_a : w.1 a = some (cI z f)) (hQ : wp_X9_pick z f i K) : Sp G l m_X9_pick d 0 0 [.ref a, .int i] (w) (fun r w2 => ∃ (r1 : Int32), r = some (.int r1) ∧ w2 = w ∧ K r1) := by
  refine Sp.ofX k_X9_pick.1.1 (Nat.le_of_ble_eq_true rfl) ?_
  refine X.lv (lv2 := [(0, .ref a), (1, .int i)]) rfl ?_
  refine x_aload_n 0 d_X9_pick_0 rfl rfl ?_
  refine x_ifnull d_X9_pick_1 ?_
  refine x_iload_n 1 d_X9_pick_4 rfl rfl ?_
  refine x_if_lt (tgt := 20) d_X9_pick_5 (by decide) (fun c_5_1 => ?_) (fun c_5_1 => ?_)
  · have hQ := hQ.1 c_5_1
    refine x_iconst (v := (0 : Int32)) d_X9_pick_20 (by decide) ?_
    exact x_iret (retI d_X9_pick_21 rfl) ⟨_, rfl, rfl, hQ⟩
  · have hQ := hQ.2 c_5_1
    refine x_iload_n 1 d_X9_pick_8 rfl rfl ?_
    refine x_aload_n 0 d_X9_pick_9 rfl rfl ?_
    refine x_alenI ha_a d_X9_pick_10 ?_
    refine x_icmp_ge (tgt := 20) d_X9_pick_11 (by decide) (fun c_11_2 => ?_) (fun c_11_2 => ?_)
    · have hQ := hQ.1 c_11_2
      refine x_iconst (v := (0 : Int32)) d_X9_pick_20 (by decide) ?_
      exact x_iret (retI d_X9_pick_21 rfl) ⟨_, rfl, rfl, hQ⟩
    · have hQ := hQ.2 c_11_2
      refine x_aload_n 0 d_X9_pick_14 rfl rfl ?_
      refine x_iload_n 1 d_X9_pick_15 rfl rfl ?_
      have hN := hQ.1
      have hQ := hQ.2
      refine x_iald ha_a hN d_X9_pick_16 ?_
      refine x_goto (tgt := 21) d_X9_pick_17 (by decide) ?_
      exact x_iret (retI d_X9_pick_21 rfl) ⟨_, rfl, rfl, hQ⟩
def wp_X9_isWithin (x : Int32) (lo : Int32) (hi : Int32) (K : Int32 → Prop) : Prop := ((x < lo → K (0 : Int32)) ∧ (¬ x < lo → ((hi < x → K (0 : Int32)) ∧ (¬ hi < x → K (1 : Int32)))))
set_option maxHeartbeats 4000000 in
theorem sp_X9_isWithin {G : GX} {l : Launch} {d : Nat} {w : HW} {x : Int32} {lo : Int32} {hi : Int32} {K : Int32 → Prop} (hd : 0 ≤ d) (hQ : wp_X9_isWithin x lo hi K) : Sp G l m_X9_isWithin d 0 0 [.int x, .int lo, .int hi] (w) (fun r w2 => ∃ (r1 : Int32), r = some (.int r1) ∧ w2 = w ∧ K r1) := by
  refine Sp.ofX k_X9_isWithin.1.1 (Nat.le_of_ble_eq_true rfl) ?_
  refine X.lv (lv2 := [(0, .int x), (1, .int lo), (2, .int hi)]) rfl ?_
  refine x_iload_n 0 d_X9_isWithin_0 rfl rfl ?_
  refine x_iload_n 1 d_X9_isWithin_1 rfl rfl ?_
  refine x_icmp_lt (tgt := 14) d_X9_isWithin_2 (by decide) (fun c_2_1 => ?_) (fun c_2_1 => ?_)
  · have hQ := hQ.1 c_2_1
    refine x_iconst (v := (0 : Int32)) d_X9_isWithin_14 (by decide) ?_
    exact x_iret (retB d_X9_isWithin_15 rfl rfl) ⟨_, rfl, rfl, hQ⟩
  · have hQ := hQ.2 c_2_1
    refine x_iload_n 0 d_X9_isWithin_5 rfl rfl ?_
    refine x_iload_n 2 d_X9_isWithin_6 rfl rfl ?_
    refine x_icmp_gt (tgt := 14) d_X9_isWithin_7 (by decide) (fun c_7_2 => ?_) (fun c_7_2 => ?_)
    · have hQ := hQ.1 c_7_2
      refine x_iconst (v := (0 : Int32)) d_X9_isWithin_14 (by decide) ?_
      exact x_iret (retB d_X9_isWithin_15 rfl rfl) ⟨_, rfl, rfl, hQ⟩
    · have hQ := hQ.2 c_7_2
      refine x_iconst (v := (1 : Int32)) d_X9_isWithin_10 (by decide) ?_
      refine x_goto (tgt := 15) d_X9_isWithin_11 (by decide) ?_
      exact x_iret (retB d_X9_isWithin_15 rfl rfl) ⟨_, rfl, rfl, hQ⟩
def wp_X9_isVariable (x : Int32) (K : Int32 → Prop) : Prop := wp_X9_isWithin x (0 : Int32) (2 : Int32) (fun (r1 : Int32) => (narrow .boolean (.int r1) = .int r1) ∧ K r1)
set_option maxHeartbeats 4000000 in
theorem sp_X9_isVariable {G : GX} {l : Launch} {d : Nat} {w : HW} {x : Int32} {K : Int32 → Prop} (hd : 1 ≤ d) (hQ : wp_X9_isVariable x K) : Sp G l m_X9_isVariable d 0 0 [.int x] (w) (fun r w2 => ∃ (r1 : Int32), r = some (.int r1) ∧ w2 = w ∧ K r1) := by
  refine Sp.ofX k_X9_isVariable.1.1 (Nat.le_of_ble_eq_true rfl) ?_
  refine X.lv (lv2 := [(0, .int x)]) rfl ?_
  refine x_iload_n 0 d_X9_isVariable_0 rfl rfl ?_
  refine x_iconst (v := (0 : Int32)) d_X9_isVariable_1 (by decide) ?_
  refine x_iconst (v := (2 : Int32)) d_X9_isVariable_2 (by decide) ?_
  refine x_invS (rest := []) (d' := d - 1) (mc' := 0) (ms' := 0) [.int x, .int (0 : Int32), .int (2 : Int32)] k_X9_isWithin lk_X9_41 rfl rfl (Nat.le_of_ble_eq_true rfl) (by omega) (Nat.le_refl _) (Nat.le_refl _) d_X9_isVariable_3 ((sp_X9_isWithin (d := d - 1) (by omega) hQ).mono (fun r w2 hr => ?_))
  obtain ⟨r1, rfl, rfl, hQ⟩ := hr
  exact x_iret (retB d_X9_isVariable_6 rfl hQ.1) ⟨_, rfl, rfl, hQ.2⟩
def wp_X9_isDelay (x : Int32) (K : Int32 → Prop) : Prop := wp_X9_isWithin x (0 : Int32) (2 : Int32) (fun (r1 : Int32) => (narrow .boolean (.int r1) = .int r1) ∧ K r1)
set_option maxHeartbeats 4000000 in
theorem sp_X9_isDelay {G : GX} {l : Launch} {d : Nat} {w : HW} {x : Int32} {K : Int32 → Prop} (hd : 1 ≤ d) (hQ : wp_X9_isDelay x K) : Sp G l m_X9_isDelay d 0 0 [.int x] (w) (fun r w2 => ∃ (r1 : Int32), r = some (.int r1) ∧ w2 = w ∧ K r1) := by
  refine Sp.ofX k_X9_isDelay.1.1 (Nat.le_of_ble_eq_true rfl) ?_
  refine X.lv (lv2 := [(0, .int x)]) rfl ?_
  refine x_iload_n 0 d_X9_isDelay_0 rfl rfl ?_
  refine x_iconst (v := (0 : Int32)) d_X9_isDelay_1 (by decide) ?_
  refine x_iconst (v := (2 : Int32)) d_X9_isDelay_2 (by decide) ?_
  refine x_invS (rest := []) (d' := d - 1) (mc' := 0) (ms' := 0) [.int x, .int (0 : Int32), .int (2 : Int32)] k_X9_isWithin lk_X9_41 rfl rfl (Nat.le_of_ble_eq_true rfl) (by omega) (Nat.le_refl _) (Nat.le_refl _) d_X9_isDelay_3 ((sp_X9_isWithin (d := d - 1) (by omega) hQ).mono (fun r w2 hr => ?_))
  obtain ⟨r1, rfl, rfl, hQ⟩ := hr
  exact x_iret (retB d_X9_isDelay_6 rfl hQ.1) ⟨_, rfl, rfl, hQ.2⟩
def wp_X9_hold (x : Int64) (K : Int32 → Prop) : Prop := (((0 : Int32) ≤ (lg_cmp x (-1000000000 : Int64)) → (((lg_cmp x (1000000000 : Int64)) ≤ (0 : Int32) → K (x.toInt32)) ∧ (¬ (lg_cmp x (1000000000 : Int64)) ≤ (0 : Int32) → K (1000000000 : Int32)))) ∧ (¬ (0 : Int32) ≤ (lg_cmp x (-1000000000 : Int64)) → K (-1000000000 : Int32)))
set_option maxHeartbeats 4000000 in
theorem sp_X9_hold {G : GX} {l : Launch} {d : Nat} {w : HW} {x : Int64} {K : Int32 → Prop} (hd : 0 ≤ d) (hQ : wp_X9_hold x K) : Sp G l m_X9_hold d 0 0 [.long x] (w) (fun r w2 => ∃ (r1 : Int32), r = some (.int r1) ∧ w2 = w ∧ K r1) := by
  refine Sp.ofX k_X9_hold.1.1 (Nat.le_of_ble_eq_true rfl) ?_
  refine X.lv (lv2 := [(0, .long x)]) rfl ?_
  refine x_lload_n 0 d_X9_hold_0 rfl rfl ?_
  refine x_ldc2 (v := (-1000000000 : Int64)) kc_X9_244 d_X9_hold_1 ?_
  refine x_lcmp d_X9_hold_4 ?_
  refine x_if_ge (tgt := 13) d_X9_hold_5 (by decide) (fun c_5_1 => ?_) (fun c_5_1 => ?_)
  · have hQ := hQ.1 c_5_1
    refine x_lload_n 0 d_X9_hold_13 rfl rfl ?_
    refine x_ldc2 (v := (1000000000 : Int64)) kc_X9_246 d_X9_hold_14 ?_
    refine x_lcmp d_X9_hold_17 ?_
    refine x_if_le (tgt := 26) d_X9_hold_18 (by decide) (fun c_18_2 => ?_) (fun c_18_2 => ?_)
    · have hQ := hQ.1 c_18_2
      refine x_lload_n 0 d_X9_hold_26 rfl rfl ?_
      refine x_l2i d_X9_hold_27 rfl ?_
      exact x_iret (retI d_X9_hold_28 rfl) ⟨_, rfl, rfl, hQ⟩
    · have hQ := hQ.2 c_18_2
      refine x_ldc (v := (1000000000 : Int32)) kc_X9_208 d_X9_hold_21 ?_
      refine x_goto (tgt := 28) d_X9_hold_23 (by decide) ?_
      exact x_iret (retI d_X9_hold_28 rfl) ⟨_, rfl, rfl, hQ⟩
  · have hQ := hQ.2 c_5_1
    refine x_ldc (v := (-1000000000 : Int32)) kc_X9_207 d_X9_hold_8 ?_
    refine x_goto (tgt := 28) d_X9_hold_10 (by decide) ?_
    exact x_iret (retI d_X9_hold_28 rfl) ⟨_, rfl, rfl, hQ⟩
def wp_X9_quotient (x : Int64) (y : Int64) (K : Int64 → Prop) : Prop := ((¬ (lg_cmp y (0 : Int64)) = (0 : Int32) → ¬ y = 0 ∧ K (x / y)) ∧ ((lg_cmp y (0 : Int64)) = (0 : Int32) → K (0 : Int64)))
set_option maxHeartbeats 4000000 in
theorem sp_X9_quotient {G : GX} {l : Launch} {d : Nat} {w : HW} {x : Int64} {y : Int64} {K : Int64 → Prop} (hd : 0 ≤ d) (hQ : wp_X9_quotient x y K) : Sp G l m_X9_quotient d 0 0 [.long x, .long y] (w) (fun r w2 => ∃ (r1 : Int64), r = some (.long r1) ∧ w2 = w ∧ K r1) := by
  refine Sp.ofX k_X9_quotient.1.1 (Nat.le_of_ble_eq_true rfl) ?_
  refine X.lv (lv2 := [(0, .long x), (2, .long y)]) rfl ?_
  refine x_lload_n 1 d_X9_quotient_0 rfl rfl ?_
  refine x_lconst (v := (0 : Int64)) d_X9_quotient_1 (by decide) ?_
  refine x_lcmp d_X9_quotient_2 ?_
  refine x_if_ne (tgt := 10) d_X9_quotient_3 (by decide) (fun c_3_1 => ?_) (fun c_3_1 => ?_)
  · have hQ := hQ.1 c_3_1
    refine x_lload_n 0 d_X9_quotient_10 rfl rfl ?_
    refine x_lload_n 1 d_X9_quotient_11 rfl rfl ?_
    have hN := hQ.1
    have hQ := hQ.2
    refine x_ldiv d_X9_quotient_12 hN ?_
    exact x_lret (retL d_X9_quotient_13 rfl) ⟨_, rfl, rfl, hQ⟩
  · have hQ := hQ.2 c_3_1
    refine x_lconst (v := (0 : Int64)) d_X9_quotient_6 (by decide) ?_
    refine x_goto (tgt := 13) d_X9_quotient_7 (by decide) ?_
    exact x_lret (retL d_X9_quotient_13 rfl) ⟨_, rfl, rfl, hQ⟩
def wp_X9_hasBit (x : Int32) (i : Int32) (K : Int32 → Prop) : Prop := ((((x >>> (i &&& 31)) &&& (1 : Int32)) = (0 : Int32) → K (0 : Int32)) ∧ (¬ ((x >>> (i &&& 31)) &&& (1 : Int32)) = (0 : Int32) → K (1 : Int32)))
set_option maxHeartbeats 4000000 in
theorem sp_X9_hasBit {G : GX} {l : Launch} {d : Nat} {w : HW} {x : Int32} {i : Int32} {K : Int32 → Prop} (hd : 0 ≤ d) (hQ : wp_X9_hasBit x i K) : Sp G l m_X9_hasBit d 0 0 [.int x, .int i] (w) (fun r w2 => ∃ (r1 : Int32), r = some (.int r1) ∧ w2 = w ∧ K r1) := by
  refine Sp.ofX k_X9_hasBit.1.1 (Nat.le_of_ble_eq_true rfl) ?_
  refine X.lv (lv2 := [(0, .int x), (1, .int i)]) rfl ?_
  refine x_iload_n 0 d_X9_hasBit_0 rfl rfl ?_
  refine x_iload_n 1 d_X9_hasBit_1 rfl rfl ?_
  refine x_ishr d_X9_hasBit_2 ?_
  refine x_iconst (v := (1 : Int32)) d_X9_hasBit_3 (by decide) ?_
  refine x_iand d_X9_hasBit_4 ?_
  refine x_if_eq (tgt := 12) d_X9_hasBit_5 (by decide) (fun c_5_1 => ?_) (fun c_5_1 => ?_)
  · have hQ := hQ.1 c_5_1
    refine x_iconst (v := (0 : Int32)) d_X9_hasBit_12 (by decide) ?_
    exact x_iret (retB d_X9_hasBit_13 rfl rfl) ⟨_, rfl, rfl, hQ⟩
  · have hQ := hQ.2 c_5_1
    refine x_iconst (v := (1 : Int32)) d_X9_hasBit_8 (by decide) ?_
    refine x_goto (tgt := 13) d_X9_hasBit_9 (by decide) ?_
    exact x_iret (retB d_X9_hasBit_13 rfl rfl) ⟨_, rfl, rfl, hQ⟩
def wp_X9_pastOperand (i : Int32) (j : Int32) (K : Int32 → Prop) : Prop := K (((4 : Int32) + (i * (3 : Int32))) + j)
set_option maxHeartbeats 4000000 in
theorem sp_X9_pastOperand {G : GX} {l : Launch} {d : Nat} {w : HW} {i : Int32} {j : Int32} {K : Int32 → Prop} (hd : 0 ≤ d) (hQ : wp_X9_pastOperand i j K) : Sp G l m_X9_pastOperand d 0 0 [.int i, .int j] (w) (fun r w2 => ∃ (r1 : Int32), r = some (.int r1) ∧ w2 = w ∧ K r1) := by
  refine Sp.ofX k_X9_pastOperand.1.1 (Nat.le_of_ble_eq_true rfl) ?_
  refine X.lv (lv2 := [(0, .int i), (1, .int j)]) rfl ?_
  refine x_iconst (v := (4 : Int32)) d_X9_pastOperand_0 (by decide) ?_
  refine x_iload_n 0 d_X9_pastOperand_1 rfl rfl ?_
  refine x_iconst (v := (3 : Int32)) d_X9_pastOperand_2 (by decide) ?_
  refine x_imul d_X9_pastOperand_3 ?_
  refine x_iadd d_X9_pastOperand_4 ?_
  refine x_iload_n 1 d_X9_pastOperand_5 rfl rfl ?_
  refine x_iadd d_X9_pastOperand_6 ?_
  exact x_iret (retI d_X9_pastOperand_7 rfl) ⟨_, rfl, rfl, hQ⟩
def wp_X9_slopeOperand (i : Int32) (j : Int32) (K : Int32 → Prop) : Prop := K (((13 : Int32) + (i * (3 : Int32))) + j)
set_option maxHeartbeats 4000000 in
theorem sp_X9_slopeOperand {G : GX} {l : Launch} {d : Nat} {w : HW} {i : Int32} {j : Int32} {K : Int32 → Prop} (hd : 0 ≤ d) (hQ : wp_X9_slopeOperand i j K) : Sp G l m_X9_slopeOperand d 0 0 [.int i, .int j] (w) (fun r w2 => ∃ (r1 : Int32), r = some (.int r1) ∧ w2 = w ∧ K r1) := by
  refine Sp.ofX k_X9_slopeOperand.1.1 (Nat.le_of_ble_eq_true rfl) ?_
  refine X.lv (lv2 := [(0, .int i), (1, .int j)]) rfl ?_
  refine x_bipush (v := (13 : Int32)) d_X9_slopeOperand_0 (by decide) ?_
  refine x_iload_n 0 d_X9_slopeOperand_2 rfl rfl ?_
  refine x_iconst (v := (3 : Int32)) d_X9_slopeOperand_3 (by decide) ?_
  refine x_imul d_X9_slopeOperand_4 ?_
  refine x_iadd d_X9_slopeOperand_5 ?_
  refine x_iload_n 1 d_X9_slopeOperand_6 rfl rfl ?_
  refine x_iadd d_X9_slopeOperand_7 ?_
  exact x_iret (retI d_X9_slopeOperand_8 rfl) ⟨_, rfl, rfl, hQ⟩
def wp_X9_needsDelay (x : Int32) (i : Int32) (K : Int32 → Prop) : Prop := wp_X9_pastOperand i (0 : Int32) (fun (r1 : Int32) => wp_X9_slopeOperand i (0 : Int32) (fun (r2 : Int32) => ∀ x3 : Int32, x3 = ((7 : Int32) <<< (r1 &&& 31)) ||| ((7 : Int32) <<< (r2 &&& 31)) → (((x &&& x3) = (0 : Int32) → K (0 : Int32)) ∧ (¬ (x &&& x3) = (0 : Int32) → K (1 : Int32)))))
set_option maxHeartbeats 4000000 in
theorem sp_X9_needsDelay {G : GX} {l : Launch} {d : Nat} {w : HW} {x : Int32} {i : Int32} {K : Int32 → Prop} (hd : 1 ≤ d) (hQ : wp_X9_needsDelay x i K) : Sp G l m_X9_needsDelay d 0 0 [.int x, .int i] (w) (fun r w2 => ∃ (r1 : Int32), r = some (.int r1) ∧ w2 = w ∧ K r1) := by
  refine Sp.ofX k_X9_needsDelay.1.1 (Nat.le_of_ble_eq_true rfl) ?_
  refine X.lv (lv2 := [(0, .int x), (1, .int i)]) rfl ?_
  refine x_bipush (v := (7 : Int32)) d_X9_needsDelay_0 (by decide) ?_
  refine x_iload_n 1 d_X9_needsDelay_2 rfl rfl ?_
  refine x_iconst (v := (0 : Int32)) d_X9_needsDelay_3 (by decide) ?_
  refine x_invS (rest := [.int (7 : Int32)]) (d' := d - 1) (mc' := 0) (ms' := 0) [.int i, .int (0 : Int32)] k_X9_pastOperand lk_X9_257 rfl rfl (Nat.le_of_ble_eq_true rfl) (by omega) (Nat.le_refl _) (Nat.le_refl _) d_X9_needsDelay_4 ((sp_X9_pastOperand (d := d - 1) (by omega) hQ).mono (fun r w2 hr => ?_))
  obtain ⟨r1, rfl, rfl, hQ⟩ := hr
  refine x_ishl d_X9_needsDelay_7 ?_
  refine x_bipush (v := (7 : Int32)) d_X9_needsDelay_8 (by decide) ?_
  refine x_iload_n 1 d_X9_needsDelay_10 rfl rfl ?_
  refine x_iconst (v := (0 : Int32)) d_X9_needsDelay_11 (by decide) ?_
  refine x_invS (rest := [.int (7 : Int32), .int ((7 : Int32) <<< (r1 &&& 31))]) (d' := d - 1) (mc' := 0) (ms' := 0) [.int i, .int (0 : Int32)] k_X9_slopeOperand lk_X9_260 rfl rfl (Nat.le_of_ble_eq_true rfl) (by omega) (Nat.le_refl _) (Nat.le_refl _) d_X9_needsDelay_12 ((sp_X9_slopeOperand (d := d - 1) (by omega) hQ).mono (fun r w2 hr => ?_))
  obtain ⟨r2, rfl, rfl, hQ⟩ := hr
  refine x_ishl d_X9_needsDelay_15 ?_
  refine x_ior d_X9_needsDelay_16 ?_
  refine x_topi (fun x3 e_x3 => ?_)
  have hQ := hQ x3 e_x3
  refine x_istore_n (lv2 := [(2, .int x3), (0, .int x), (1, .int i)]) d_X9_needsDelay_17 rfl (by decide) rfl ?_
  refine x_iload_n 1 d_X9_needsDelay_18 rfl rfl ?_
  refine x_iload_n 0 d_X9_needsDelay_19 rfl rfl ?_
  refine x_iand d_X9_needsDelay_20 ?_
  refine x_if_eq (tgt := 28) d_X9_needsDelay_21 (by decide) (fun c_21_4 => ?_) (fun c_21_4 => ?_)
  · have hQ := hQ.1 c_21_4
    refine x_iconst (v := (0 : Int32)) d_X9_needsDelay_28 (by decide) ?_
    exact x_iret (retB d_X9_needsDelay_29 rfl rfl) ⟨_, rfl, rfl, hQ⟩
  · have hQ := hQ.2 c_21_4
    refine x_iconst (v := (1 : Int32)) d_X9_needsDelay_24 (by decide) ?_
    refine x_goto (tgt := 29) d_X9_needsDelay_25 (by decide) ?_
    exact x_iret (retB d_X9_needsDelay_29 rfl rfl) ⟨_, rfl, rfl, hQ⟩
def lp_X9_delaysIn_4 (x : Int32) (K : Int32 → Prop) : Nat → Int32 → Int32 → Prop
  | 0, _, _ => False
  | n + 1, x_1, x_2 => (((3 : Int32) ≤ x_2 → K x_1) ∧ (¬ (3 : Int32) ≤ x_2 → wp_X9_needsDelay x x_2 (fun (r2 : Int32) => ((r2 = (0 : Int32) → ∀ x4 : Int32, x4 = x_2 + (1 : Int32) → lp_X9_delaysIn_4 x K n x_1 x4) ∧ (¬ r2 = (0 : Int32) → ∀ x5 : Int32, x5 = x_1 ||| ((1 : Int32) <<< (x_2 &&& 31)) → ∀ x6 : Int32, x6 = x_2 + (1 : Int32) → lp_X9_delaysIn_4 x K n x5 x6)))))
set_option maxHeartbeats 4000000 in
theorem jt_X9_delaysIn_4 {G : GX} {l : Launch} {d : Nat} {w : HW} {x : Int32} {K : Int32 → Prop} (hd : 2 ≤ d) : ∀ (n : Nat) (x_1 : Int32) (x_2 : Int32), lp_X9_delaysIn_4 x K n x_1 x_2 → X G l m_X9_delaysIn d 0 0 0 0 4 [(0, .int x), (1, .int x_1), (2, .int x_2)] [] (w) (fun r w2 => ∃ (r1 : Int32), r = some (.int r1) ∧ w2 = w ∧ K r1) := by
  intro n
  induction n with
  | zero =>
    intro x_1 x_2 hQ
    exact hQ.elim
  | succ n ih =>
    intro x_1 x_2 hQ
    refine x_iload_n 2 d_X9_delaysIn_4 rfl rfl ?_
    refine x_iconst (v := (3 : Int32)) d_X9_delaysIn_5 (by decide) ?_
    refine x_icmp_ge (tgt := 29) d_X9_delaysIn_6 (by decide) (fun c_6_1 => ?_) (fun c_6_1 => ?_)
    · have hQ := hQ.1 c_6_1
      refine x_iload_n 1 d_X9_delaysIn_29 rfl rfl ?_
      exact x_iret (retI d_X9_delaysIn_30 rfl) ⟨_, rfl, rfl, hQ⟩
    · have hQ := hQ.2 c_6_1
      refine x_iload_n 0 d_X9_delaysIn_9 rfl rfl ?_
      refine x_iload_n 2 d_X9_delaysIn_10 rfl rfl ?_
      refine x_invS (rest := []) (d' := d - 1) (mc' := 0) (ms' := 0) [.int x, .int x_2] k_X9_needsDelay lk_X9_263 rfl rfl (Nat.le_of_ble_eq_true rfl) (by omega) (Nat.le_refl _) (Nat.le_refl _) d_X9_delaysIn_11 ((sp_X9_needsDelay (d := d - 1) (by omega) hQ).mono (fun r w2 hr => ?_))
      obtain ⟨r2, rfl, rfl, hQ⟩ := hr
      refine x_if_eq (tgt := 23) d_X9_delaysIn_14 (by decide) (fun c_14_3 => ?_) (fun c_14_3 => ?_)
      · have hQ := hQ.1 c_14_3
        obtain ⟨x4, e_x4⟩ : ∃ z : Int32, z = x_2 + (1 : Int32) := ⟨_, rfl⟩
        have hQ := hQ x4 e_x4
        refine x_iinc (v := x4) (lv2 := [(2, .int x4), (0, .int x), (1, .int x_1)]) 2 d_X9_delaysIn_23 rfl (by rw [e_x4]; rfl) (by decide) rfl ?_
        refine x_goto (tgt := 4) d_X9_delaysIn_26 (by decide) ?_
        refine x_sub [1, 2, 0] (lv2 := [(0, .int x), (1, .int x_1), (2, .int x4)]) rfl ?_
        exact ih x_1 x4 hQ
      · have hQ := hQ.2 c_14_3
        refine x_iload_n 1 d_X9_delaysIn_17 rfl rfl ?_
        refine x_iconst (v := (1 : Int32)) d_X9_delaysIn_18 (by decide) ?_
        refine x_iload_n 2 d_X9_delaysIn_19 rfl rfl ?_
        refine x_ishl d_X9_delaysIn_20 ?_
        refine x_ior d_X9_delaysIn_21 ?_
        refine x_topi (fun x5 e_x5 => ?_)
        have hQ := hQ x5 e_x5
        refine x_istore_n (lv2 := [(1, .int x5), (0, .int x), (2, .int x_2)]) d_X9_delaysIn_22 rfl (by decide) rfl ?_
        obtain ⟨x6, e_x6⟩ : ∃ z : Int32, z = x_2 + (1 : Int32) := ⟨_, rfl⟩
        have hQ := hQ x6 e_x6
        refine x_iinc (v := x6) (lv2 := [(2, .int x6), (1, .int x5), (0, .int x)]) 2 d_X9_delaysIn_23 rfl (by rw [e_x6]; rfl) (by decide) rfl ?_
        refine x_goto (tgt := 4) d_X9_delaysIn_26 (by decide) ?_
        refine x_sub [2, 1, 0] (lv2 := [(0, .int x), (1, .int x5), (2, .int x6)]) rfl ?_
        exact ih x5 x6 hQ
def wp_X9_delaysIn (x : Int32) (K : Int32 → Prop) : Prop := ∃ m : Nat, lp_X9_delaysIn_4 x K m (0 : Int32) (0 : Int32)
set_option maxHeartbeats 4000000 in
theorem sp_X9_delaysIn {G : GX} {l : Launch} {d : Nat} {w : HW} {x : Int32} {K : Int32 → Prop} (hd : 2 ≤ d) (hQ : wp_X9_delaysIn x K) : Sp G l m_X9_delaysIn d 0 0 [.int x] (w) (fun r w2 => ∃ (r1 : Int32), r = some (.int r1) ∧ w2 = w ∧ K r1) := by
  refine Sp.ofX k_X9_delaysIn.1.1 (Nat.le_of_ble_eq_true rfl) ?_
  refine X.lv (lv2 := [(0, .int x)]) rfl ?_
  refine x_iconst (v := (0 : Int32)) d_X9_delaysIn_0 (by decide) ?_
  refine x_istore_n (lv2 := [(1, .int (0 : Int32)), (0, .int x)]) d_X9_delaysIn_1 rfl (by decide) rfl ?_
  refine x_iconst (v := (0 : Int32)) d_X9_delaysIn_2 (by decide) ?_
  refine x_istore_n (lv2 := [(2, .int (0 : Int32)), (1, .int (0 : Int32)), (0, .int x)]) d_X9_delaysIn_3 rfl (by decide) rfl ?_
  refine x_sub [2, 1, 0] (lv2 := [(0, .int x), (1, .int (0 : Int32)), (2, .int (0 : Int32))]) rfl ?_
  obtain ⟨m, hQ⟩ := hQ
  exact jt_X9_delaysIn_4 hd m (0 : Int32) (0 : Int32) hQ
def wp_X3_lagAt (s : RT) (i : Int32) (t : Int32) (K : Int32 → Prop) : Prop := wp_X9_pick 3 (s.1 6) i (fun (r1 : Int32) => wp_X9_pick 3 (s.1 7) i (fun (r2 : Int32) => K (if (0 : Int32) < (r1 + ((r2 * t) / (1000 : Int32))) then (r1 + ((r2 * t) / (1000 : Int32))) else (0 : Int32))))
set_option maxHeartbeats 4000000 in
theorem sp_X3_lagAt {G : GX} {l : Launch} {d : Nat} {w : HW} {a : Nat} {s : RT} {i : Int32} {t : Int32} {K : Int32 → Prop} (hd : 1 ≤ d) (hQ : wp_X3_lagAt s i t K) : Sp G l m_X3_lagAt d 0 0 [.ref (a + 5), .int i, .int t] (put w a 19 (shS a s)) (fun r w2 => ∃ (r1 : Int32), r = some (.int r1) ∧ w2 = put w a 19 (shS a s) ∧ K r1) := by
  refine Sp.ofX k_X3_lagAt.1.1 (Nat.le_of_ble_eq_true rfl) ?_
  refine X.lv (lv2 := [(0, .ref (a + 5)), (1, .int i), (2, .int t)]) rfl ?_
  refine x_iconst (v := (0 : Int32)) d_X3_lagAt_0 (by decide) ?_
  refine x_aload_n 0 d_X3_lagAt_1 rfl rfl ?_
  refine x_getf 0 gf_X3_9 gS_5 rfl d_X3_lagAt_2 ?_
  refine x_iload_n 1 d_X3_lagAt_5 rfl rfl ?_
  refine x_invSN (rest := [.int (0 : Int32)]) (d' := d - 1) (mc' := 0) (ms' := 0) [.ref (a + 6), .int i] "LagSolver" k_X9_pick lk_X3_18 rfl rfl (Nat.le_of_ble_eq_true rfl) (by omega) (Nat.le_refl _) (Nat.le_refl _) d_X3_lagAt_6 ((sp_X9_pick (d := d - 1) (by omega) gS_6 hQ).mono (fun r w2 hr => ?_))
  obtain ⟨r1, rfl, rfl, hQ⟩ := hr
  refine x_aload_n 0 d_X3_lagAt_9 rfl rfl ?_
  refine x_getf 1 gf_X3_15 gS_5 rfl d_X3_lagAt_10 ?_
  refine x_iload_n 1 d_X3_lagAt_13 rfl rfl ?_
  refine x_invSN (rest := [.int r1, .int (0 : Int32)]) (d' := d - 1) (mc' := 0) (ms' := 0) [.ref (a + 7), .int i] "LagSolver" k_X9_pick lk_X3_18 rfl rfl (Nat.le_of_ble_eq_true rfl) (by omega) (Nat.le_refl _) (Nat.le_refl _) d_X3_lagAt_14 ((sp_X9_pick (d := d - 1) (by omega) gS_7 hQ).mono (fun r w2 hr => ?_))
  obtain ⟨r2, rfl, rfl, hQ⟩ := hr
  refine x_iload_n 2 d_X3_lagAt_17 rfl rfl ?_
  refine x_imul d_X3_lagAt_18 ?_
  refine x_sipush (v := (1000 : Int32)) d_X3_lagAt_19 (by decide) ?_
  refine x_idiv d_X3_lagAt_22 (by decide) ?_
  refine x_iadd d_X3_lagAt_23 ?_
  refine x_mmax lk_X3_22 jw_max_s iw_Math jw_max_c (Nat.le_of_ble_eq_true rfl) (by omega) d_X3_lagAt_24 ?_
  exact x_iret (retI d_X3_lagAt_27 rfl) ⟨_, rfl, rfl, hQ⟩
def jp_X3_reach_68 (s : RT) (i : Int32) (u : Int32) (K : Int32 → Prop) (x_3 : Int32) : Prop := (((8000 : Int32) < x_3 → K (0 : Int32)) ∧ (¬ (8000 : Int32) < x_3 → wp_X3_lagAt s i x_3 (fun (r4 : Int32) => ((¬ r4 = (0 : Int32) → K x_3) ∧ (r4 = (0 : Int32) → K (0 : Int32))))))
set_option maxHeartbeats 4000000 in
theorem jt_X3_reach_68 {G : GX} {l : Launch} {d : Nat} {w : HW} {a : Nat} {s : RT} {i : Int32} {u : Int32} {K : Int32 → Prop} (hd : 2 ≤ d) (x_3 : Int32) (hQ : jp_X3_reach_68 s i u K x_3) : X G l m_X3_reach d 0 0 0 0 68 [(0, .ref (a + 5)), (1, .int i), (3, .int x_3)] [] (put w a 19 (shS a s)) (fun r w2 => ∃ (r1 : Int32), r = some (.int r1) ∧ w2 = put w a 19 (shS a s) ∧ K r1) := by
  refine x_iload_n 2 d_X3_reach_68 rfl rfl ?_
  refine x_sipush (v := (8000 : Int32)) d_X3_reach_69 (by decide) ?_
  refine x_icmp_gt (tgt := 84) d_X3_reach_72 (by decide) (fun c_72_3 => ?_) (fun c_72_3 => ?_)
  · have hQ := hQ.1 c_72_3
    refine x_iconst (v := (0 : Int32)) d_X3_reach_84 (by decide) ?_
    refine x_goto (tgt := 89) d_X3_reach_85 (by decide) ?_
    exact x_iret (retI d_X3_reach_89 rfl) ⟨_, rfl, rfl, hQ⟩
  · have hQ := hQ.2 c_72_3
    refine x_aload_n 0 d_X3_reach_75 rfl rfl ?_
    refine x_iload_n 1 d_X3_reach_76 rfl rfl ?_
    refine x_iload_n 2 d_X3_reach_77 rfl rfl ?_
    refine x_invV (rest := []) (d' := d - 1) (mc' := 0) (ms' := 0) [.int i, .int x_3] k_X3_lagAt lk_X3_28 gS_5 rfl rfl rfl (Nat.le_of_ble_eq_true rfl) (by omega) (Nat.le_refl _) (Nat.le_refl _) d_X3_reach_78 ((sp_X3_lagAt (d := d - 1) (by omega) hQ).mono (fun r w2 hr => ?_))
    obtain ⟨r4, rfl, rfl, hQ⟩ := hr
    refine x_if_ne (tgt := 88) d_X3_reach_81 (by decide) (fun c_81_5 => ?_) (fun c_81_5 => ?_)
    · have hQ := hQ.1 c_81_5
      refine x_iload_n 2 d_X3_reach_88 rfl rfl ?_
      exact x_iret (retI d_X3_reach_89 rfl) ⟨_, rfl, rfl, hQ⟩
    · have hQ := hQ.2 c_81_5
      refine x_iconst (v := (0 : Int32)) d_X3_reach_84 (by decide) ?_
      refine x_goto (tgt := 89) d_X3_reach_85 (by decide) ?_
      exact x_iret (retI d_X3_reach_89 rfl) ⟨_, rfl, rfl, hQ⟩
def lp_X3_reach_12 (s : RT) (i : Int32) (u : Int32) (K : Int32 → Prop) : Nat → Int32 → Int32 → Int32 → Prop
  | 0, _, _, _ => False
  | n + 1, x_3, x_4, x_5 => (((8000 : Int32) ≤ x_5 → jp_X3_reach_68 s i u K x_3) ∧ (¬ (8000 : Int32) ≤ x_5 → ((x_4 ≤ x_3 → jp_X3_reach_68 s i u K x_3) ∧ (¬ x_4 ≤ x_3 → ∀ x7 : Int32, x7 = x_3 + ((x_4 - x_3) / (2 : Int32)) → wp_X3_lagAt s i x7 (fun (r8 : Int32) => (((x7 - r8) < u → ∀ x10 : Int32, x10 = x7 + (1 : Int32) → ∀ x11 : Int32, x11 = x_5 + (1 : Int32) → lp_X3_reach_12 s i u K n x10 x_4 x11) ∧ (¬ (x7 - r8) < u → ∀ x12 : Int32, x12 = x_5 + (1 : Int32) → lp_X3_reach_12 s i u K n x_3 x7 x12)))))))
set_option maxHeartbeats 4000000 in
theorem jt_X3_reach_12 {G : GX} {l : Launch} {d : Nat} {w : HW} {a : Nat} {s : RT} {i : Int32} {u : Int32} {K : Int32 → Prop} (hd : 2 ≤ d) : ∀ (n : Nat) (x_3 : Int32) (x_4 : Int32) (x_5 : Int32), lp_X3_reach_12 s i u K n x_3 x_4 x_5 → X G l m_X3_reach d 0 0 0 0 12 [(0, .ref (a + 5)), (1, .int i), (2, .int u), (3, .int x_3), (4, .int x_4), (5, .int x_5)] [] (put w a 19 (shS a s)) (fun r w2 => ∃ (r1 : Int32), r = some (.int r1) ∧ w2 = put w a 19 (shS a s) ∧ K r1) := by
  intro n
  induction n with
  | zero =>
    intro x_3 x_4 x_5 hQ
    exact hQ.elim
  | succ n ih =>
    intro x_3 x_4 x_5 hQ
    refine x_iload 5 d_X3_reach_12 rfl ?_
    refine x_sipush (v := (8000 : Int32)) d_X3_reach_14 (by decide) ?_
    refine x_icmp_ge (tgt := 68) d_X3_reach_17 (by decide) (fun c_17_2 => ?_) (fun c_17_2 => ?_)
    · have hQ := hQ.1 c_17_2
      refine x_sub [0, 1, 3] (lv2 := [(0, .ref (a + 5)), (1, .int i), (3, .int x_3)]) rfl ?_
      exact jt_X3_reach_68 hd x_3 hQ
    · have hQ := hQ.2 c_17_2
      refine x_iload_n 3 d_X3_reach_20 rfl rfl ?_
      refine x_iload 4 d_X3_reach_21 rfl ?_
      refine x_icmp_ge (tgt := 68) d_X3_reach_23 (by decide) (fun c_23_6 => ?_) (fun c_23_6 => ?_)
      · have hQ := hQ.1 c_23_6
        refine x_sub [0, 1, 3] (lv2 := [(0, .ref (a + 5)), (1, .int i), (3, .int x_3)]) rfl ?_
        exact jt_X3_reach_68 hd x_3 hQ
      · have hQ := hQ.2 c_23_6
        refine x_iload_n 3 d_X3_reach_26 rfl rfl ?_
        refine x_iload 4 d_X3_reach_27 rfl ?_
        refine x_iload_n 3 d_X3_reach_29 rfl rfl ?_
        refine x_isub d_X3_reach_30 ?_
        refine x_iconst (v := (2 : Int32)) d_X3_reach_31 (by decide) ?_
        refine x_idiv d_X3_reach_32 (by decide) ?_
        refine x_iadd d_X3_reach_33 ?_
        refine x_topi (fun x7 e_x7 => ?_)
        have hQ := hQ x7 e_x7
        refine x_istore (lv2 := [(6, .int x7), (0, .ref (a + 5)), (1, .int i), (2, .int u), (3, .int x_3), (4, .int x_4), (5, .int x_5)]) d_X3_reach_34 (by decide) rfl ?_
        refine x_iload 0 d_X3_reach_36 rfl ?_
        refine x_aload_n 1 d_X3_reach_38 rfl rfl ?_
        refine x_iload_n 2 d_X3_reach_39 rfl rfl ?_
        refine x_iload 0 d_X3_reach_40 rfl ?_
        refine x_invV (rest := [.int x7]) (d' := d - 1) (mc' := 0) (ms' := 0) [.int i, .int x7] k_X3_lagAt lk_X3_28 gS_5 rfl rfl rfl (Nat.le_of_ble_eq_true rfl) (by omega) (Nat.le_refl _) (Nat.le_refl _) d_X3_reach_42 ((sp_X3_lagAt (d := d - 1) (by omega) hQ).mono (fun r w2 hr => ?_))
        obtain ⟨r8, rfl, rfl, hQ⟩ := hr
        refine x_isub d_X3_reach_45 ?_
        refine x_iload_n 3 d_X3_reach_46 rfl rfl ?_
        refine x_icmp_lt (tgt := 57) d_X3_reach_47 (by decide) (fun c_47_9 => ?_) (fun c_47_9 => ?_)
        · have hQ := hQ.1 c_47_9
          refine x_iload 0 d_X3_reach_57 rfl ?_
          refine x_iconst (v := (1 : Int32)) d_X3_reach_59 (by decide) ?_
          refine x_iadd d_X3_reach_60 ?_
          refine x_topi (fun x10 e_x10 => ?_)
          have hQ := hQ x10 e_x10
          refine x_istore_n (lv2 := [(3, .int x10), (6, .int x7), (0, .ref (a + 5)), (1, .int i), (2, .int u), (4, .int x_4), (5, .int x_5)]) d_X3_reach_61 rfl (by decide) rfl ?_
          obtain ⟨x11, e_x11⟩ : ∃ z : Int32, z = x_5 + (1 : Int32) := ⟨_, rfl⟩
          have hQ := hQ x11 e_x11
          refine x_iinc (v := x11) (lv2 := [(5, .int x11), (3, .int x10), (6, .int x7), (0, .ref (a + 5)), (1, .int i), (2, .int u), (4, .int x_4)]) 6 d_X3_reach_62 rfl (by rw [e_x11]; rfl) (by decide) rfl ?_
          refine x_goto (tgt := 12) d_X3_reach_65 (by decide) ?_
          refine x_sub [3, 4, 5, 1, 6, 0] (lv2 := [(0, .ref (a + 5)), (1, .int i), (2, .int u), (3, .int x10), (4, .int x_4), (5, .int x11)]) rfl ?_
          exact ih x10 x_4 x11 hQ
        · have hQ := hQ.2 c_47_9
          refine x_iload 0 d_X3_reach_50 rfl ?_
          refine x_istore (lv2 := [(4, .int x7), (6, .int x7), (0, .ref (a + 5)), (1, .int i), (2, .int u), (3, .int x_3), (5, .int x_5)]) d_X3_reach_52 (by decide) rfl ?_
          refine x_goto (tgt := 62) d_X3_reach_54 (by decide) ?_
          obtain ⟨x12, e_x12⟩ : ∃ z : Int32, z = x_5 + (1 : Int32) := ⟨_, rfl⟩
          have hQ := hQ x12 e_x12
          refine x_iinc (v := x12) (lv2 := [(5, .int x12), (4, .int x7), (6, .int x7), (0, .ref (a + 5)), (1, .int i), (2, .int u), (3, .int x_3)]) 6 d_X3_reach_62 rfl (by rw [e_x12]; rfl) (by decide) rfl ?_
          refine x_goto (tgt := 12) d_X3_reach_65 (by decide) ?_
          refine x_sub [3, 4, 5, 6, 1, 0] (lv2 := [(0, .ref (a + 5)), (1, .int i), (2, .int u), (3, .int x_3), (4, .int x7), (5, .int x12)]) rfl ?_
          exact ih x_3 x7 x12 hQ
def wp_X3_reach (s : RT) (i : Int32) (u : Int32) (K : Int32 → Prop) : Prop := ∀ x1 : Int32, x1 = u + (1 : Int32) → ∃ m : Nat, lp_X3_reach_12 s i u K m x1 (8001 : Int32) (0 : Int32)
set_option maxHeartbeats 4000000 in
theorem sp_X3_reach {G : GX} {l : Launch} {d : Nat} {w : HW} {a : Nat} {s : RT} {i : Int32} {u : Int32} {K : Int32 → Prop} (hd : 2 ≤ d) (hQ : wp_X3_reach s i u K) : Sp G l m_X3_reach d 0 0 [.ref (a + 5), .int i, .int u] (put w a 19 (shS a s)) (fun r w2 => ∃ (r1 : Int32), r = some (.int r1) ∧ w2 = put w a 19 (shS a s) ∧ K r1) := by
  refine Sp.ofX k_X3_reach.1.1 (Nat.le_of_ble_eq_true rfl) ?_
  refine X.lv (lv2 := [(0, .ref (a + 5)), (1, .int i), (2, .int u)]) rfl ?_
  refine x_iload_n 2 d_X3_reach_0 rfl rfl ?_
  refine x_iconst (v := (1 : Int32)) d_X3_reach_1 (by decide) ?_
  refine x_iadd d_X3_reach_2 ?_
  refine x_topi (fun x1 e_x1 => ?_)
  have hQ := hQ x1 e_x1
  refine x_istore_n (lv2 := [(3, .int x1), (0, .ref (a + 5)), (1, .int i), (2, .int u)]) d_X3_reach_3 rfl (by decide) rfl ?_
  refine x_sipush (v := (8001 : Int32)) d_X3_reach_4 (by decide) ?_
  refine x_istore (lv2 := [(4, .int (8001 : Int32)), (3, .int x1), (0, .ref (a + 5)), (1, .int i), (2, .int u)]) d_X3_reach_7 (by decide) rfl ?_
  refine x_iconst (v := (0 : Int32)) d_X3_reach_9 (by decide) ?_
  refine x_istore (lv2 := [(5, .int (0 : Int32)), (4, .int (8001 : Int32)), (3, .int x1), (0, .ref (a + 5)), (1, .int i), (2, .int u)]) d_X3_reach_10 (by decide) rfl ?_
  refine x_sub [3, 4, 5, 2, 1, 0] (lv2 := [(0, .ref (a + 5)), (1, .int i), (2, .int u), (3, .int x1), (4, .int (8001 : Int32)), (5, .int (0 : Int32))]) rfl ?_
  obtain ⟨m, hQ⟩ := hQ
  exact jt_X3_reach_12 hd m x1 (8001 : Int32) (0 : Int32) hQ
