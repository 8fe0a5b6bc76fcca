def wp_L_low (v : Int32) (z : Int32) (K : Int32 → Prop) : Prop := ¬ z = 0 ∧ K ((v &&& (2147483647 : Int32)) - (v &&& (2147483647 : Int32)) / z * z)
set_option maxHeartbeats 4000000 in
theorem sp_L_low {G : GX} {l : Launch} {d : Nat} {w : HW} {v : Int32} {z : Int32} {K : Int32 → Prop} (hd : 0 ≤ d) (hQ : wp_L_low v z K) : Sp G l m_L_low d 0 0 [.int v, .int z] (w) (fun r w2 => ∃ (r1 : Int32), r = some (.int r1) ∧ w2 = w ∧ K r1) := by
  refine Sp.ofX k_L_low.1.1 (Nat.le_of_ble_eq_true rfl) ?_
  refine X.lv (lv2 := [(0, .int v), (1, .int z)]) rfl ?_
  refine x_iload_n 0 d_L_low_0 rfl rfl ?_
  refine x_ldc (v := (2147483647 : Int32)) kc_L_8 d_L_low_1 ?_
  refine x_iand d_L_low_3 ?_
  refine x_iload_n 1 d_L_low_4 rfl rfl ?_
  have hN := hQ.1
  have hQ := hQ.2
  refine x_irem d_L_low_5 hN ?_
  exact x_iret (retI d_L_low_6 rfl) ⟨_, rfl, rfl, hQ⟩
def wp_L_near (v : Int32) (z : Int32) (K : Int32 → Prop) : Prop := wp_L_low v (40 : Int32) (fun (r1 : Int32) => ((¬ r1 = (0 : Int32) → ((¬ r1 = (1 : Int32) → ((¬ r1 = (2 : Int32) → wp_L_low (v >>> ((6 : Int32) &&& 31)) z (fun (r5 : Int32) => K r5)) ∧ (r1 = (2 : Int32) → K v))) ∧ (r1 = (1 : Int32) → K z))) ∧ (r1 = (0 : Int32) → K (-1 : Int32))))
set_option maxHeartbeats 4000000 in
theorem sp_L_near {G : GX} {l : Launch} {d : Nat} {w : HW} {v : Int32} {z : Int32} {K : Int32 → Prop} (hd : 1 ≤ d) (hQ : wp_L_near v z K) : Sp G l m_L_near d 0 0 [.int v, .int z] (w) (fun r w2 => ∃ (r1 : Int32), r = some (.int r1) ∧ w2 = w ∧ K r1) := by
  refine Sp.ofX k_L_near.1.1 (Nat.le_of_ble_eq_true rfl) ?_
  refine X.lv (lv2 := [(0, .int v), (1, .int z)]) rfl ?_
  refine x_iload_n 0 d_L_near_0 rfl rfl ?_
  refine x_bipush (v := (40 : Int32)) d_L_near_1 (by decide) ?_
  refine x_invS (rest := []) (d' := d - 1) (mc' := 0) (ms' := 0) [.int v, .int (40 : Int32)] k_L_low lk_L_9 rfl rfl (Nat.le_of_ble_eq_true rfl) (by omega) (Nat.le_refl _) (Nat.le_refl _) d_L_near_3 ((sp_L_low (d := d - 1) (by omega) hQ).mono (fun r w2 hr => ?_))
  obtain ⟨r1, rfl, rfl, hQ⟩ := hr
  refine x_istore_n (lv2 := [(2, .int r1), (0, .int v), (1, .int z)]) d_L_near_6 rfl (by decide) rfl ?_
  refine x_iload_n 0 d_L_near_7 rfl rfl ?_
  refine x_if_ne (tgt := 15) d_L_near_8 (by decide) (fun c_8_2 => ?_) (fun c_8_2 => ?_)
  · have hQ := hQ.1 c_8_2
    refine x_iload_n 0 d_L_near_15 rfl rfl ?_
    refine x_iconst (v := (1 : Int32)) d_L_near_16 (by decide) ?_
    refine x_icmp_ne (tgt := 24) d_L_near_17 (by decide) (fun c_17_3 => ?_) (fun c_17_3 => ?_)
    · have hQ := hQ.1 c_17_3
      refine x_iload_n 0 d_L_near_24 rfl rfl ?_
      refine x_iconst (v := (2 : Int32)) d_L_near_25 (by decide) ?_
      refine x_icmp_ne (tgt := 33) d_L_near_26 (by decide) (fun c_26_4 => ?_) (fun c_26_4 => ?_)
      · have hQ := hQ.1 c_26_4
        refine x_iload_n 1 d_L_near_33 rfl rfl ?_
        refine x_bipush (v := (6 : Int32)) d_L_near_34 (by decide) ?_
        refine x_ishr d_L_near_36 ?_
        refine x_iload_n 2 d_L_near_37 rfl rfl ?_
        refine x_invS (rest := []) (d' := d - 1) (mc' := 0) (ms' := 0) [.int (v >>> ((6 : Int32) &&& 31)), .int z] k_L_low lk_L_9 rfl rfl (Nat.le_of_ble_eq_true rfl) (by omega) (Nat.le_refl _) (Nat.le_refl _) d_L_near_38 ((sp_L_low (d := d - 1) (by omega) hQ).mono (fun r w2 hr => ?_))
        obtain ⟨r5, rfl, rfl, hQ⟩ := hr
        exact x_iret (retI d_L_near_41 rfl) ⟨_, rfl, rfl, hQ⟩
      · have hQ := hQ.2 c_26_4
        refine x_iload_n 1 d_L_near_29 rfl rfl ?_
        refine x_goto (tgt := 41) d_L_near_30 (by decide) ?_
        exact x_iret (retI d_L_near_41 rfl) ⟨_, rfl, rfl, hQ⟩
    · have hQ := hQ.2 c_17_3
      refine x_iload_n 2 d_L_near_20 rfl rfl ?_
      refine x_goto (tgt := 41) d_L_near_21 (by decide) ?_
      exact x_iret (retI d_L_near_41 rfl) ⟨_, rfl, rfl, hQ⟩
  · have hQ := hQ.2 c_8_2
    refine x_iconst (v := (-1 : Int32)) d_L_near_11 (by decide) ?_
    refine x_goto (tgt := 41) d_L_near_12 (by decide) ?_
    exact x_iret (retI d_L_near_41 rfl) ⟨_, rfl, rfl, hQ⟩
def wp_L_isError (v : Int32) (K : Int32 → Prop) : Prop := (((-2000000001 : Int32) < v → K (0 : Int32)) ∧ (¬ (-2000000001 : Int32) < v → ((v < (-2000000004 : Int32) → K (0 : Int32)) ∧ (¬ v < (-2000000004 : Int32) → K (1 : Int32)))))
set_option maxHeartbeats 4000000 in
theorem sp_L_isError {G : GX} {l : Launch} {d : Nat} {w : HW} {v : Int32} {K : Int32 → Prop} (hd : 0 ≤ d) (hQ : wp_L_isError v K) : Sp G l m_L_isError d 0 0 [.int v] (w) (fun r w2 => ∃ (r1 : Int32), r = some (.int r1) ∧ w2 = w ∧ K r1) := by
  refine Sp.ofX k_L_isError.1.1 (Nat.le_of_ble_eq_true rfl) ?_
  refine X.lv (lv2 := [(0, .int v)]) rfl ?_
  refine x_iload_n 0 d_L_isError_0 rfl rfl ?_
  refine x_ldc (v := (-2000000001 : Int32)) kc_L_15 d_L_isError_1 ?_
  refine x_icmp_gt (tgt := 16) d_L_isError_3 (by decide) (fun c_3_1 => ?_) (fun c_3_1 => ?_)
  · have hQ := hQ.1 c_3_1
    refine x_iconst (v := (0 : Int32)) d_L_isError_16 (by decide) ?_
    exact x_iret (retB d_L_isError_17 rfl rfl) ⟨_, rfl, rfl, hQ⟩
  · have hQ := hQ.2 c_3_1
    refine x_iload_n 0 d_L_isError_6 rfl rfl ?_
    refine x_ldc (v := (-2000000004 : Int32)) kc_L_16 d_L_isError_7 ?_
    refine x_icmp_lt (tgt := 16) d_L_isError_9 (by decide) (fun c_9_2 => ?_) (fun c_9_2 => ?_)
    · have hQ := hQ.1 c_9_2
      refine x_iconst (v := (0 : Int32)) d_L_isError_16 (by decide) ?_
      exact x_iret (retB d_L_isError_17 rfl rfl) ⟨_, rfl, rfl, hQ⟩
    · have hQ := hQ.2 c_9_2
      refine x_iconst (v := (1 : Int32)) d_L_isError_12 (by decide) ?_
      refine x_goto (tgt := 17) d_L_isError_13 (by decide) ?_
      exact x_iret (retB d_L_isError_17 rfl rfl) ⟨_, rfl, rfl, hQ⟩
def wp_L_cell (z : Nat) (f : Nat → Int32) (i : Int32) (K : Int32 → Prop) : Prop := (((nI z) ≤ i → K ((461845907 : Int32) * (i + (1 : Int32)))) ∧ (¬ (nI z) ≤ i → vp_in i z ∧ K (f i.toNatClampNeg)))
set_option maxHeartbeats 4000000 in
theorem sp_L_cell {G : GX} {l : Launch} {d : Nat} {w : HW} {a : Nat} {z : Nat} {f : Nat → Int32} {i : Int32} {K : Int32 → Prop} (hd : 0 ≤ d) (ha_a : RoA G a z f) (hQ : wp_L_cell z f i K) : Sp G l m_L_cell d 0 0 [.ref a, .int i] (w) (fun r w2 => ∃ (r1 : Int32), r = some (.int r1) ∧ w2 = w ∧ K r1) := by
  refine Sp.ofX k_L_cell.1.1 (Nat.le_of_ble_eq_true rfl) ?_
  refine X.lv (lv2 := [(0, .ref a), (1, .int i)]) rfl ?_
  refine x_iload_n 1 d_L_cell_0 rfl rfl ?_
  refine x_aload_n 0 d_L_cell_1 rfl rfl ?_
  refine x_alenRo ha_a d_L_cell_2 ?_
  refine x_icmp_ge (tgt := 12) d_L_cell_3 (by decide) (fun c_3_1 => ?_) (fun c_3_1 => ?_)
  · have hQ := hQ.1 c_3_1
    refine x_ldc (v := (461845907 : Int32)) kc_L_7 d_L_cell_12 ?_
    refine x_iload_n 1 d_L_cell_14 rfl rfl ?_
    refine x_iconst (v := (1 : Int32)) d_L_cell_15 (by decide) ?_
    refine x_iadd d_L_cell_16 ?_
    refine x_imul d_L_cell_17 ?_
    exact x_iret (retI d_L_cell_18 rfl) ⟨_, rfl, rfl, hQ⟩
  · have hQ := hQ.2 c_3_1
    refine x_aload_n 0 d_L_cell_6 rfl rfl ?_
    refine x_iload_n 1 d_L_cell_7 rfl rfl ?_
    have hN := hQ.1
    have hQ := hQ.2
    refine x_ialdRo ha_a hN d_L_cell_8 ?_
    refine x_goto (tgt := 18) d_L_cell_9 (by decide) ?_
    exact x_iret (retI d_L_cell_18 rfl) ⟨_, rfl, rfl, hQ⟩
def lp_L_trace_176 (A : AB) (K : Int64 → Prop) (k_134 : Int64 → Int32 → Prop) : Nat → Int64 → Int32 → Int32 → Prop
  | 0, _, _, _ => False
  | n + 1, x_1, x_3, x_4 => (((0 : Int32) < x_4 → ∀ x7 : Int32, x7 = x_3 + (1 : Int32) → k_134 x_1 x7) ∧ (¬ (0 : Int32) < x_4 → ∀ x8 : Int64, x8 = ((31 : Int64) * x_1) + ((qr_value A x_3 x_4).toInt64) → ∀ x9 : Int32, x9 = x_4 + (100 : Int32) → lp_L_trace_176 A K k_134 n x8 x_3 x9))
set_option maxHeartbeats 4000000 in
theorem jt_L_trace_176 {G : GX} {l : Launch} {d x : Nat} {A : AB} {K : Int64 → Prop} {k_134 : Int64 → Int32 → Prop} (hd : 5 ≤ d) (hk_134 : ∀ (x_1 : Int64) (x_3 : Int32) (w : HW), OW w x A → k_134 x_1 x_3 → X G l m_L_trace d 0 0 0 0 134 [(0, .ref x), (1, .long x_1), (3, .int x_3)] [] w (fun r9 w2 => ∃ (r1 : Int64), r9 = some (.long r1) ∧ OW w2 x A ∧ K r1)) : ∀ (n : Nat) (x_1 : Int64) (x_3 : Int32) (x_4 : Int32) (w : HW), OW w x A → lp_L_trace_176 A K k_134 n x_1 x_3 x_4 → X G l m_L_trace d 0 0 0 0 176 [(0, .ref x), (1, .long x_1), (3, .int x_3), (4, .int x_4)] [] w (fun r9 w2 => ∃ (r1 : Int64), r9 = some (.long r1) ∧ OW w2 x A ∧ K r1) := by
  intro n
  induction n with
  | zero =>
    intro x_1 x_3 x_4 w hO hQ
    exact hQ.elim
  | succ n ih =>
    intro x_1 x_3 x_4 w hO hQ
    refine x_iload 3 d_L_trace_176 rfl ?_
    refine x_if_gt (tgt := 202) d_L_trace_178 (by decide) (fun c_178_6 => ?_) (fun c_178_6 => ?_)
    · have hQ := hQ.1 c_178_6
      obtain ⟨x7, e_x7⟩ : ∃ z : Int32, z = x_3 + (1 : Int32) := ⟨_, rfl⟩
      have hQ := hQ x7 e_x7
      refine x_iinc (v := x7) (lv2 := [(3, .int x7), (0, .ref x), (1, .long x_1), (4, .int x_4)]) 2 d_L_trace_202 rfl (by rw [e_x7]; rfl) (by decide) rfl ?_
      refine x_goto (tgt := 134) d_L_trace_205 (by decide) ?_
      refine x_sub [1, 2, 0] (lv2 := [(0, .ref x), (1, .long x_1), (3, .int x7)]) rfl ?_
      exact hk_134 x_1 x7 _ hO hQ
    · have hQ := hQ.2 c_178_6
      refine x_ldc2 (v := (31 : Int64)) kc_L_19 d_L_trace_181 ?_
      refine x_lload_n 1 d_L_trace_184 rfl rfl ?_
      refine x_lmul d_L_trace_185 ?_
      refine x_aload_n 0 d_L_trace_186 rfl rfl ?_
      refine x_iload_n 2 d_L_trace_187 rfl rfl ?_
      refine x_iload 3 d_L_trace_188 rfl ?_
      refine x_invV (rest := [.long ((31 : Int64) * x_1)]) (d' := d - 1) (mc' := 0) (ms' := 0) [.int x_3, .int x_4] k_X9_value lk_L_36 (OWx hO) rfl rfl rfl (Nat.le_of_ble_eq_true rfl) (by omega) (Nat.le_of_ble_eq_true rfl) (Nat.le_of_ble_eq_true rfl) d_L_trace_190 ((sw_value (d := d - 1) (by omega) hO).mono (fun r w2 hr => ?_))
      obtain ⟨rfl, hO⟩ := hr
      refine x_i2l d_L_trace_193 rfl ?_
      refine x_ladd d_L_trace_194 ?_
      refine x_topl (fun x8 e_x8 => ?_)
      have hQ := hQ x8 e_x8
      refine x_lstore_n (lv2 := [(1, .long x8), (0, .ref x), (3, .int x_3), (4, .int x_4)]) d_L_trace_195 rfl (by decide) rfl ?_
      obtain ⟨x9, e_x9⟩ : ∃ z : Int32, z = x_4 + (100 : Int32) := ⟨_, rfl⟩
      have hQ := hQ x9 e_x9
      refine x_iinc (v := x9) (lv2 := [(4, .int x9), (1, .long x8), (0, .ref x), (3, .int x_3)]) 3 d_L_trace_196 rfl (by rw [e_x9]; rfl) (by decide) rfl ?_
      refine x_goto (tgt := 176) d_L_trace_199 (by decide) ?_
      refine x_sub [2, 1, 3, 0] (lv2 := [(0, .ref x), (1, .long x8), (3, .int x_3), (4, .int x9)]) rfl ?_
      exact ih x8 x_3 x9 _ hO hQ
def lp_L_trace_134 (A : AB) (K : Int64 → Prop) : Nat → Int64 → Int32 → Prop
  | 0, _, _ => False
  | n + 1, x_1, x_3 => (((3 : Int32) ≤ x_3 → K x_1) ∧ (¬ (3 : Int32) ≤ x_3 → ∀ x5 : Int64, x5 = ((31 : Int64) * (((31 : Int64) * x_1) + ((qr_lag A x_3 (1000 : Int32)).toInt64))) + ((qr_value A x_3 (qr_count A (3 : Int32))).toInt64) → ∃ m : Nat, lp_L_trace_176 A K (fun v0 v1 => lp_L_trace_134 A K n v0 v1) m x5 x_3 (-600 : Int32)))
set_option maxHeartbeats 4000000 in
theorem jt_L_trace_134 {G : GX} {l : Launch} {d x : Nat} {A : AB} {K : Int64 → Prop} (hd : 5 ≤ d) : ∀ (n : Nat) (x_1 : Int64) (x_3 : Int32) (w : HW), OW w x A → lp_L_trace_134 A K n x_1 x_3 → X G l m_L_trace d 0 0 0 0 134 [(0, .ref x), (1, .long x_1), (3, .int x_3)] [] w (fun r9 w2 => ∃ (r1 : Int64), r9 = some (.long r1) ∧ OW w2 x A ∧ K r1) := by
  intro n
  induction n with
  | zero =>
    intro x_1 x_3 w hO hQ
    exact hQ.elim
  | succ n ih =>
    intro x_1 x_3 w hO hQ
    refine x_iload_n 2 d_L_trace_134 rfl rfl ?_
    refine x_iconst (v := (3 : Int32)) d_L_trace_135 (by decide) ?_
    refine x_icmp_ge (tgt := 208) d_L_trace_136 (by decide) (fun c_136_4 => ?_) (fun c_136_4 => ?_)
    · have hQ := hQ.1 c_136_4
      refine x_lload_n 1 d_L_trace_208 rfl rfl ?_
      exact x_lret (retL d_L_trace_209 rfl) ⟨_, rfl, hO, hQ⟩
    · have hQ := hQ.2 c_136_4
      refine x_ldc2 (v := (31 : Int64)) kc_L_19 d_L_trace_139 ?_
      refine x_ldc2 (v := (31 : Int64)) kc_L_19 d_L_trace_142 ?_
      refine x_lload_n 1 d_L_trace_145 rfl rfl ?_
      refine x_lmul d_L_trace_146 ?_
      refine x_aload_n 0 d_L_trace_147 rfl rfl ?_
      refine x_iload_n 2 d_L_trace_148 rfl rfl ?_
      refine x_sipush (v := (1000 : Int32)) d_L_trace_149 (by decide) ?_
      refine x_invV (rest := [.long ((31 : Int64) * x_1), .long (31 : Int64)]) (d' := d - 1) (mc' := 0) (ms' := 0) [.int x_3, .int (1000 : Int32)] k_X9_lag lk_L_33 (OWx hO) rfl rfl rfl (Nat.le_of_ble_eq_true rfl) (by omega) (Nat.le_of_ble_eq_true rfl) (Nat.le_of_ble_eq_true rfl) d_L_trace_152 ((sw_lag (d := d - 1) (by omega) hO).mono (fun r w2 hr => ?_))
      obtain ⟨rfl, hO⟩ := hr
      refine x_i2l d_L_trace_155 rfl ?_
      refine x_ladd d_L_trace_156 ?_
      refine x_lmul d_L_trace_157 ?_
      refine x_aload_n 0 d_L_trace_158 rfl rfl ?_
      refine x_iload_n 2 d_L_trace_159 rfl rfl ?_
      refine x_aload_n 0 d_L_trace_160 rfl rfl ?_
      refine x_iconst (v := (3 : Int32)) d_L_trace_161 (by decide) ?_
      refine x_invV (rest := [.int x_3, .ref x, .long ((31 : Int64) * (((31 : Int64) * x_1) + ((qr_lag A x_3 (1000 : Int32)).toInt64)))]) (d' := d - 1) (mc' := 0) (ms' := 0) [.int (3 : Int32)] k_X9_count lk_L_21 (OWx hO) rfl rfl rfl (Nat.le_of_ble_eq_true rfl) (by omega) (Nat.le_of_ble_eq_true rfl) (Nat.le_of_ble_eq_true rfl) d_L_trace_162 ((sw_count (d := d - 1) (by omega) hO (h6 := by decide)).mono (fun r w2 hr => ?_))
      obtain ⟨rfl, hO⟩ := hr
      refine x_invV (rest := [.long ((31 : Int64) * (((31 : Int64) * x_1) + ((qr_lag A x_3 (1000 : Int32)).toInt64)))]) (d' := d - 1) (mc' := 0) (ms' := 0) [.int x_3, .int (qr_count A (3 : Int32))] k_X9_value lk_L_36 (OWx hO) rfl rfl rfl (Nat.le_of_ble_eq_true rfl) (by omega) (Nat.le_of_ble_eq_true rfl) (Nat.le_of_ble_eq_true rfl) d_L_trace_165 ((sw_value (d := d - 1) (by omega) hO).mono (fun r w2 hr => ?_))
      obtain ⟨rfl, hO⟩ := hr
      refine x_i2l d_L_trace_168 rfl ?_
      refine x_ladd d_L_trace_169 ?_
      refine x_topl (fun x5 e_x5 => ?_)
      have hQ := hQ x5 e_x5
      refine x_lstore_n (lv2 := [(1, .long x5), (0, .ref x), (3, .int x_3)]) d_L_trace_170 rfl (by decide) rfl ?_
      refine x_sipush (v := (-600 : Int32)) d_L_trace_171 (by decide) ?_
      refine x_istore (lv2 := [(4, .int (-600 : Int32)), (1, .long x5), (0, .ref x), (3, .int x_3)]) d_L_trace_174 (by decide) rfl ?_
      refine x_sub [2, 1, 3, 0] (lv2 := [(0, .ref x), (1, .long x5), (3, .int x_3), (4, .int (-600 : Int32))]) rfl ?_
      obtain ⟨m, hQ⟩ := hQ
      exact jt_L_trace_176 hd ih m x5 x_3 (-600 : Int32) _ hO hQ
def lp_L_trace_98 (A : AB) (K : Int64 → Prop) (k_86 : Int64 → Int32 → Prop) : Nat → Int64 → Int32 → Int32 → Prop
  | 0, _, _, _ => False
  | n + 1, x_1, x_3, x_4 => (((6 : Int32) ≤ x_4 → ∀ x11 : Int32, x11 = x_3 + (1 : Int32) → k_86 x_1 x11) ∧ (¬ (6 : Int32) ≤ x_4 → ∀ x12 : Int64, x12 = ((31 : Int64) * x_1) + ((qr_step A x_3 x_4).toInt64) → ∀ x13 : Int32, x13 = x_4 + (1 : Int32) → lp_L_trace_98 A K k_86 n x12 x_3 x13))
set_option maxHeartbeats 4000000 in
theorem jt_L_trace_98 {G : GX} {l : Launch} {d x : Nat} {A : AB} {K : Int64 → Prop} {k_86 : Int64 → Int32 → Prop} (hd : 5 ≤ d) (hk_86 : ∀ (x_1 : Int64) (x_3 : Int32) (w : HW), OW w x A → k_86 x_1 x_3 → X G l m_L_trace d 0 0 0 0 86 [(0, .ref x), (1, .long x_1), (3, .int x_3)] [] w (fun r9 w2 => ∃ (r1 : Int64), r9 = some (.long r1) ∧ OW w2 x A ∧ K r1)) : ∀ (n : Nat) (x_1 : Int64) (x_3 : Int32) (x_4 : Int32) (w : HW), OW w x A → lp_L_trace_98 A K k_86 n x_1 x_3 x_4 → X G l m_L_trace d 0 0 0 0 98 [(0, .ref x), (1, .long x_1), (3, .int x_3), (4, .int x_4)] [] w (fun r9 w2 => ∃ (r1 : Int64), r9 = some (.long r1) ∧ OW w2 x A ∧ K r1) := by
  intro n
  induction n with
  | zero =>
    intro x_1 x_3 x_4 w hO hQ
    exact hQ.elim
  | succ n ih =>
    intro x_1 x_3 x_4 w hO hQ
    refine x_iload 3 d_L_trace_98 rfl ?_
    refine x_bipush (v := (6 : Int32)) d_L_trace_100 (by decide) ?_
    refine x_icmp_ge (tgt := 126) d_L_trace_102 (by decide) (fun c_102_10 => ?_) (fun c_102_10 => ?_)
    · have hQ := hQ.1 c_102_10
      obtain ⟨x11, e_x11⟩ : ∃ z : Int32, z = x_3 + (1 : Int32) := ⟨_, rfl⟩
      have hQ := hQ x11 e_x11
      refine x_iinc (v := x11) (lv2 := [(3, .int x11), (0, .ref x), (1, .long x_1), (4, .int x_4)]) 2 d_L_trace_126 rfl (by rw [e_x11]; rfl) (by decide) rfl ?_
      refine x_goto (tgt := 86) d_L_trace_129 (by decide) ?_
      refine x_sub [1, 2, 0] (lv2 := [(0, .ref x), (1, .long x_1), (3, .int x11)]) rfl ?_
      exact hk_86 x_1 x11 _ hO hQ
    · have hQ := hQ.2 c_102_10
      refine x_ldc2 (v := (31 : Int64)) kc_L_19 d_L_trace_105 ?_
      refine x_lload_n 1 d_L_trace_108 rfl rfl ?_
      refine x_lmul d_L_trace_109 ?_
      refine x_aload_n 0 d_L_trace_110 rfl rfl ?_
      refine x_iload_n 2 d_L_trace_111 rfl rfl ?_
      refine x_iload 3 d_L_trace_112 rfl ?_
      refine x_invV (rest := [.long ((31 : Int64) * x_1)]) (d' := d - 1) (mc' := 0) (ms' := 0) [.int x_3, .int x_4] k_X9_step lk_L_30 (OWx hO) rfl rfl rfl (Nat.le_of_ble_eq_true rfl) (by omega) (Nat.le_of_ble_eq_true rfl) (Nat.le_of_ble_eq_true rfl) d_L_trace_114 ((sw_step (d := d - 1) (by omega) hO).mono (fun r w2 hr => ?_))
      obtain ⟨rfl, hO⟩ := hr
      refine x_i2l d_L_trace_117 rfl ?_
      refine x_ladd d_L_trace_118 ?_
      refine x_topl (fun x12 e_x12 => ?_)
      have hQ := hQ x12 e_x12
      refine x_lstore_n (lv2 := [(1, .long x12), (0, .ref x), (3, .int x_3), (4, .int x_4)]) d_L_trace_119 rfl (by decide) rfl ?_
      obtain ⟨x13, e_x13⟩ : ∃ z : Int32, z = x_4 + (1 : Int32) := ⟨_, rfl⟩
      have hQ := hQ x13 e_x13
      refine x_iinc (v := x13) (lv2 := [(4, .int x13), (1, .long x12), (0, .ref x), (3, .int x_3)]) 3 d_L_trace_120 rfl (by rw [e_x13]; rfl) (by decide) rfl ?_
      refine x_goto (tgt := 98) d_L_trace_123 (by decide) ?_
      refine x_sub [2, 1, 3, 0] (lv2 := [(0, .ref x), (1, .long x12), (3, .int x_3), (4, .int x13)]) rfl ?_
      exact ih x12 x_3 x13 _ hO hQ
def lp_L_trace_86 (A : AB) (K : Int64 → Prop) : Nat → Int64 → Int32 → Prop
  | 0, _, _ => False
  | n + 1, x_1, x_3 => (((qr_count A (4 : Int32)) ≤ x_3 → ∃ m : Nat, lp_L_trace_134 A K m x_1 (0 : Int32)) ∧ (¬ (qr_count A (4 : Int32)) ≤ x_3 → ∃ m : Nat, lp_L_trace_98 A K (fun v0 v1 => lp_L_trace_86 A K n v0 v1) m x_1 x_3 (1 : Int32)))
set_option maxHeartbeats 4000000 in
theorem jt_L_trace_86 {G : GX} {l : Launch} {d x : Nat} {A : AB} {K : Int64 → Prop} (hd : 5 ≤ d) : ∀ (n : Nat) (x_1 : Int64) (x_3 : Int32) (w : HW), OW w x A → lp_L_trace_86 A K n x_1 x_3 → X G l m_L_trace d 0 0 0 0 86 [(0, .ref x), (1, .long x_1), (3, .int x_3)] [] w (fun r9 w2 => ∃ (r1 : Int64), r9 = some (.long r1) ∧ OW w2 x A ∧ K r1) := by
  intro n
  induction n with
  | zero =>
    intro x_1 x_3 w hO hQ
    exact hQ.elim
  | succ n ih =>
    intro x_1 x_3 w hO hQ
    refine x_iload_n 2 d_L_trace_86 rfl rfl ?_
    refine x_aload_n 0 d_L_trace_87 rfl rfl ?_
    refine x_iconst (v := (4 : Int32)) d_L_trace_88 (by decide) ?_
    refine x_invV (rest := [.int x_3]) (d' := d - 1) (mc' := 0) (ms' := 0) [.int (4 : Int32)] k_X9_count lk_L_21 (OWx hO) rfl rfl rfl (Nat.le_of_ble_eq_true rfl) (by omega) (Nat.le_of_ble_eq_true rfl) (Nat.le_of_ble_eq_true rfl) d_L_trace_89 ((sw_count (d := d - 1) (by omega) hO (h6 := by decide)).mono (fun r w2 hr => ?_))
    obtain ⟨rfl, hO⟩ := hr
    refine x_icmp_ge (tgt := 132) d_L_trace_92 (by decide) (fun c_92_3 => ?_) (fun c_92_3 => ?_)
    · have hQ := hQ.1 c_92_3
      refine x_iconst (v := (0 : Int32)) d_L_trace_132 (by decide) ?_
      refine x_istore_n (lv2 := [(3, .int (0 : Int32)), (0, .ref x), (1, .long x_1)]) d_L_trace_133 rfl (by decide) rfl ?_
      refine x_sub [1, 2, 0] (lv2 := [(0, .ref x), (1, .long x_1), (3, .int (0 : Int32))]) rfl ?_
      obtain ⟨m, hQ⟩ := hQ
      exact jt_L_trace_134 hd m x_1 (0 : Int32) _ hO hQ
    · have hQ := hQ.2 c_92_3
      refine x_iconst (v := (1 : Int32)) d_L_trace_95 (by decide) ?_
      refine x_istore (lv2 := [(4, .int (1 : Int32)), (0, .ref x), (1, .long x_1), (3, .int x_3)]) d_L_trace_96 (by decide) rfl ?_
      refine x_sub [1, 2, 3, 0] (lv2 := [(0, .ref x), (1, .long x_1), (3, .int x_3), (4, .int (1 : Int32))]) rfl ?_
      obtain ⟨m, hQ⟩ := hQ
      exact jt_L_trace_98 hd ih m x_1 x_3 (1 : Int32) _ hO hQ
def lp_L_trace_43 (A : AB) (K : Int64 → Prop) : Nat → Int64 → Int32 → Prop
  | 0, _, _ => False
  | n + 1, x_1, x_3 => (((qr_count A (5 : Int32)) ≤ x_3 → ∃ m : Nat, lp_L_trace_86 A K m x_1 (0 : Int32)) ∧ (¬ (qr_count A (5 : Int32)) ≤ x_3 → ∀ x14 : Int64, x14 = ((31 : Int64) * (((31 : Int64) * x_1) + ((qr_brk A x_3 (0 : Int32)).toInt64))) + ((qr_brk A x_3 (2 : Int32)).toInt64) → ∀ x15 : Int32, x15 = x_3 + (1 : Int32) → lp_L_trace_43 A K n x14 x15))
set_option maxHeartbeats 4000000 in
theorem jt_L_trace_43 {G : GX} {l : Launch} {d x : Nat} {A : AB} {K : Int64 → Prop} (hd : 5 ≤ d) : ∀ (n : Nat) (x_1 : Int64) (x_3 : Int32) (w : HW), OW w x A → lp_L_trace_43 A K n x_1 x_3 → X G l m_L_trace d 0 0 0 0 43 [(0, .ref x), (1, .long x_1), (3, .int x_3)] [] w (fun r9 w2 => ∃ (r1 : Int64), r9 = some (.long r1) ∧ OW w2 x A ∧ K r1) := by
  intro n
  induction n with
  | zero =>
    intro x_1 x_3 w hO hQ
    exact hQ.elim
  | succ n ih =>
    intro x_1 x_3 w hO hQ
    refine x_iload_n 2 d_L_trace_43 rfl rfl ?_
    refine x_aload_n 0 d_L_trace_44 rfl rfl ?_
    refine x_iconst (v := (5 : Int32)) d_L_trace_45 (by decide) ?_
    refine x_invV (rest := [.int x_3]) (d' := d - 1) (mc' := 0) (ms' := 0) [.int (5 : Int32)] k_X9_count lk_L_21 (OWx hO) rfl rfl rfl (Nat.le_of_ble_eq_true rfl) (by omega) (Nat.le_of_ble_eq_true rfl) (Nat.le_of_ble_eq_true rfl) d_L_trace_46 ((sw_count (d := d - 1) (by omega) hO (h6 := by decide)).mono (fun r w2 hr => ?_))
    obtain ⟨rfl, hO⟩ := hr
    refine x_icmp_ge (tgt := 84) d_L_trace_49 (by decide) (fun c_49_2 => ?_) (fun c_49_2 => ?_)
    · have hQ := hQ.1 c_49_2
      refine x_iconst (v := (0 : Int32)) d_L_trace_84 (by decide) ?_
      refine x_istore_n (lv2 := [(3, .int (0 : Int32)), (0, .ref x), (1, .long x_1)]) d_L_trace_85 rfl (by decide) rfl ?_
      refine x_sub [1, 2, 0] (lv2 := [(0, .ref x), (1, .long x_1), (3, .int (0 : Int32))]) rfl ?_
      obtain ⟨m, hQ⟩ := hQ
      exact jt_L_trace_86 hd m x_1 (0 : Int32) _ hO hQ
    · have hQ := hQ.2 c_49_2
      refine x_ldc2 (v := (31 : Int64)) kc_L_19 d_L_trace_52 ?_
      refine x_ldc2 (v := (31 : Int64)) kc_L_19 d_L_trace_55 ?_
      refine x_lload_n 1 d_L_trace_58 rfl rfl ?_
      refine x_lmul d_L_trace_59 ?_
      refine x_aload_n 0 d_L_trace_60 rfl rfl ?_
      refine x_iload_n 2 d_L_trace_61 rfl rfl ?_
      refine x_iconst (v := (0 : Int32)) d_L_trace_62 (by decide) ?_
      refine x_invV (rest := [.long ((31 : Int64) * x_1), .long (31 : Int64)]) (d' := d - 1) (mc' := 0) (ms' := 0) [.int x_3, .int (0 : Int32)] k_X9_breakAt lk_L_27 (OWx hO) rfl rfl rfl (Nat.le_of_ble_eq_true rfl) (by omega) (Nat.le_of_ble_eq_true rfl) (Nat.le_of_ble_eq_true rfl) d_L_trace_63 ((sw_breakAt (d := d - 1) (by omega) hO).mono (fun r w2 hr => ?_))
      obtain ⟨rfl, hO⟩ := hr
      refine x_i2l d_L_trace_66 rfl ?_
      refine x_ladd d_L_trace_67 ?_
      refine x_lmul d_L_trace_68 ?_
      refine x_aload_n 0 d_L_trace_69 rfl rfl ?_
      refine x_iload_n 2 d_L_trace_70 rfl rfl ?_
      refine x_iconst (v := (2 : Int32)) d_L_trace_71 (by decide) ?_
      refine x_invV (rest := [.long ((31 : Int64) * (((31 : Int64) * x_1) + ((qr_brk A x_3 (0 : Int32)).toInt64)))]) (d' := d - 1) (mc' := 0) (ms' := 0) [.int x_3, .int (2 : Int32)] k_X9_breakAt lk_L_27 (OWx hO) rfl rfl rfl (Nat.le_of_ble_eq_true rfl) (by omega) (Nat.le_of_ble_eq_true rfl) (Nat.le_of_ble_eq_true rfl) d_L_trace_72 ((sw_breakAt (d := d - 1) (by omega) hO).mono (fun r w2 hr => ?_))
      obtain ⟨rfl, hO⟩ := hr
      refine x_i2l d_L_trace_75 rfl ?_
      refine x_ladd d_L_trace_76 ?_
      refine x_topl (fun x14 e_x14 => ?_)
      have hQ := hQ x14 e_x14
      refine x_lstore_n (lv2 := [(1, .long x14), (0, .ref x), (3, .int x_3)]) d_L_trace_77 rfl (by decide) rfl ?_
      obtain ⟨x15, e_x15⟩ : ∃ z : Int32, z = x_3 + (1 : Int32) := ⟨_, rfl⟩
      have hQ := hQ x15 e_x15
      refine x_iinc (v := x15) (lv2 := [(3, .int x15), (1, .long x14), (0, .ref x)]) 2 d_L_trace_78 rfl (by rw [e_x15]; rfl) (by decide) rfl ?_
      refine x_goto (tgt := 43) d_L_trace_81 (by decide) ?_
      refine x_sub [2, 1, 0] (lv2 := [(0, .ref x), (1, .long x14), (3, .int x15)]) rfl ?_
      exact ih x14 x15 _ hO hQ
def jp_L_trace_32 (A : AB) (K : Int64 → Prop) (k_6 : Int64 → Int32 → Prop) (x_3 : Int32) (t_0 : Int32) (t_1 : Int64) : Prop := ∀ x17 : Int64, x17 = t_1 + (t_0.toInt64) → ∀ x18 : Int32, x18 = x_3 + (1 : Int32) → k_6 x17 x18
set_option maxHeartbeats 4000000 in
theorem jt_L_trace_32 {G : GX} {l : Launch} {d x : Nat} {A : AB} {K : Int64 → Prop} {k_6 : Int64 → Int32 → Prop} (hd : 5 ≤ d) (hk_6 : ∀ (x_1 : Int64) (x_3 : Int32) (w : HW), OW w x A → k_6 x_1 x_3 → X G l m_L_trace d 0 0 0 0 6 [(0, .ref x), (1, .long x_1), (3, .int x_3)] [] w (fun r9 w2 => ∃ (r1 : Int64), r9 = some (.long r1) ∧ OW w2 x A ∧ K r1)) (x_3 : Int32) (t_0 : Int32) (t_1 : Int64) (w : HW) (hO : OW w x A) (hQ : jp_L_trace_32 A K k_6 x_3 t_0 t_1) : X G l m_L_trace d 0 0 0 0 32 [(0, .ref x), (3, .int x_3)] [.int t_0, .long t_1] w (fun r9 w2 => ∃ (r1 : Int64), r9 = some (.long r1) ∧ OW w2 x A ∧ K r1) := by
  refine x_i2l d_L_trace_32 rfl ?_
  refine x_ladd d_L_trace_33 ?_
  refine x_topl (fun x17 e_x17 => ?_)
  have hQ := hQ x17 e_x17
  refine x_lstore_n (lv2 := [(1, .long x17), (0, .ref x), (3, .int x_3)]) d_L_trace_34 rfl (by decide) rfl ?_
  obtain ⟨x18, e_x18⟩ : ∃ z : Int32, z = x_3 + (1 : Int32) := ⟨_, rfl⟩
  have hQ := hQ x18 e_x18
  refine x_iinc (v := x18) (lv2 := [(3, .int x18), (1, .long x17), (0, .ref x)]) 2 d_L_trace_35 rfl (by rw [e_x18]; rfl) (by decide) rfl ?_
  refine x_goto (tgt := 6) d_L_trace_38 (by decide) ?_
  refine x_sub [2, 1, 0] (lv2 := [(0, .ref x), (1, .long x17), (3, .int x18)]) rfl ?_
  exact hk_6 x17 x18 _ hO hQ
def lp_L_trace_6 (A : AB) (K : Int64 → Prop) : Nat → Int64 → Int32 → Prop
  | 0, _, _ => False
  | n + 1, x_1, x_3 => (((15 : Int32) ≤ x_3 → ∃ m : Nat, lp_L_trace_43 A K m x_1 (0 : Int32)) ∧ (¬ (15 : Int32) ≤ x_3 → ((¬ x_3 = (6 : Int32) → ¬ x_3 = 6 ∧ jp_L_trace_32 A K (fun v0 v1 => lp_L_trace_6 A K n v0 v1) x_3 (qr_count A x_3) ((31 : Int64) * x_1)) ∧ (x_3 = (6 : Int32) → jp_L_trace_32 A K (fun v0 v1 => lp_L_trace_6 A K n v0 v1) x_3 (0 : Int32) ((31 : Int64) * x_1)))))
set_option maxHeartbeats 4000000 in
theorem jt_L_trace_6 {G : GX} {l : Launch} {d x : Nat} {A : AB} {K : Int64 → Prop} (hd : 5 ≤ d) : ∀ (n : Nat) (x_1 : Int64) (x_3 : Int32) (w : HW), OW w x A → lp_L_trace_6 A K n x_1 x_3 → X G l m_L_trace d 0 0 0 0 6 [(0, .ref x), (1, .long x_1), (3, .int x_3)] [] w (fun r9 w2 => ∃ (r1 : Int64), r9 = some (.long r1) ∧ OW w2 x A ∧ K r1) := by
  intro n
  induction n with
  | zero =>
    intro x_1 x_3 w hO hQ
    exact hQ.elim
  | succ n ih =>
    intro x_1 x_3 w hO hQ
    refine x_iload_n 2 d_L_trace_6 rfl rfl ?_
    refine x_bipush (v := (15 : Int32)) d_L_trace_7 (by decide) ?_
    refine x_icmp_ge (tgt := 41) d_L_trace_9 (by decide) (fun c_9_1 => ?_) (fun c_9_1 => ?_)
    · have hQ := hQ.1 c_9_1
      refine x_iconst (v := (0 : Int32)) d_L_trace_41 (by decide) ?_
      refine x_istore_n (lv2 := [(3, .int (0 : Int32)), (0, .ref x), (1, .long x_1)]) d_L_trace_42 rfl (by decide) rfl ?_
      refine x_sub [1, 2, 0] (lv2 := [(0, .ref x), (1, .long x_1), (3, .int (0 : Int32))]) rfl ?_
      obtain ⟨m, hQ⟩ := hQ
      exact jt_L_trace_43 hd m x_1 (0 : Int32) _ hO hQ
    · have hQ := hQ.2 c_9_1
      refine x_ldc2 (v := (31 : Int64)) kc_L_19 d_L_trace_12 ?_
      refine x_lload_n 1 d_L_trace_15 rfl rfl ?_
      refine x_lmul d_L_trace_16 ?_
      refine x_iload_n 2 d_L_trace_17 rfl rfl ?_
      refine x_bipush (v := (6 : Int32)) d_L_trace_18 (by decide) ?_
      refine x_icmp_ne (tgt := 27) d_L_trace_20 (by decide) (fun c_20_16 => ?_) (fun c_20_16 => ?_)
      · have hQ := hQ.1 c_20_16
        refine x_aload_n 0 d_L_trace_27 rfl rfl ?_
        refine x_iload_n 2 d_L_trace_28 rfl rfl ?_
        have hN := hQ.1
        have hQ := hQ.2
        refine x_invV (rest := [.long ((31 : Int64) * x_1)]) (d' := d - 1) (mc' := 0) (ms' := 0) [.int x_3] k_X9_count lk_L_21 (OWx hO) rfl rfl rfl (Nat.le_of_ble_eq_true rfl) (by omega) (Nat.le_of_ble_eq_true rfl) (Nat.le_of_ble_eq_true rfl) d_L_trace_29 ((sw_count (d := d - 1) (by omega) hO (h6 := hN)).mono (fun r w2 hr => ?_))
        obtain ⟨rfl, hO⟩ := hr
        refine x_sub [0, 2] (lv2 := [(0, .ref x), (3, .int x_3)]) rfl ?_
        exact jt_L_trace_32 hd ih x_3 (qr_count A x_3) ((31 : Int64) * x_1) _ hO hQ
      · have hQ := hQ.2 c_20_16
        refine x_iconst (v := (0 : Int32)) d_L_trace_23 (by decide) ?_
        refine x_goto (tgt := 32) d_L_trace_24 (by decide) ?_
        refine x_sub [0, 2] (lv2 := [(0, .ref x), (3, .int x_3)]) rfl ?_
        exact jt_L_trace_32 hd ih x_3 (0 : Int32) ((31 : Int64) * x_1) _ hO hQ
def wp_L_trace (A : AB) (K : Int64 → Prop) : Prop := ∃ m : Nat, lp_L_trace_6 A K m (17 : Int64) (0 : Int32)
set_option maxHeartbeats 4000000 in
theorem sp_L_trace {G : GX} {l : Launch} {d x : Nat} {w : HW} {A : AB} {K : Int64 → Prop} (hd : 5 ≤ d) (hO : OW w x A) (hQ : wp_L_trace A K) : Sp G l m_L_trace d 0 0 [.ref x] w (fun r9 w2 => ∃ (r1 : Int64), r9 = some (.long r1) ∧ OW w2 x A ∧ K r1) := by
  refine Sp.ofX k_L_trace.1.1 (Nat.le_of_ble_eq_true rfl) ?_
  refine X.lv (lv2 := [(0, .ref x)]) rfl ?_
  refine x_ldc2 (v := (17 : Int64)) kc_L_17 d_L_trace_0 ?_
  refine x_lstore_n (lv2 := [(1, .long (17 : Int64)), (0, .ref x)]) d_L_trace_3 rfl (by decide) rfl ?_
  refine x_iconst (v := (0 : Int32)) d_L_trace_4 (by decide) ?_
  refine x_istore_n (lv2 := [(3, .int (0 : Int32)), (1, .long (17 : Int64)), (0, .ref x)]) d_L_trace_5 rfl (by decide) rfl ?_
  refine x_sub [2, 1, 0] (lv2 := [(0, .ref x), (1, .long (17 : Int64)), (3, .int (0 : Int32))]) rfl ?_
  obtain ⟨m, hQ⟩ := hQ
  exact jt_L_trace_6 hd m (17 : Int64) (0 : Int32) _ hO hQ
def jp_L_breaksFit_313 (A : AB) (K : Int32 → Prop) (k_84 : Int32 → Int32 → Int32 → Int32 → Prop) (x_1 : Int32) (x_2 : Int32) (x_4 : Int32) : Prop := ∀ x12 : Int32, x12 = x_4 + (1 : Int32) → k_84 x_1 x_2 (0 : Int32) x12
set_option maxHeartbeats 4000000 in
theorem jt_L_breaksFit_313 {G : GX} {l : Launch} {d x : Nat} {A : AB} {K : Int32 → Prop} {k_84 : Int32 → Int32 → Int32 → Int32 → Prop} (hd : 4 ≤ d) (hk_84 : ∀ (x_1 : Int32) (x_2 : Int32) (x_3 : Int32) (x_4 : Int32) (w : HW), OW w x A → k_84 x_1 x_2 x_3 x_4 → X G l m_L_breaksFit d 0 0 0 0 84 [(0, .ref x), (1, .int x_1), (2, .int x_2), (3, .int x_3), (4, .int x_4)] [] w (fun r9 w2 => ∃ (r1 : Int32), r9 = some (.int r1) ∧ OW w2 x A ∧ K r1)) (x_1 : Int32) (x_2 : Int32) (x_4 : Int32) (w : HW) (hO : OW w x A) (hQ : jp_L_breaksFit_313 A K k_84 x_1 x_2 x_4) : X G l m_L_breaksFit d 0 0 0 0 313 [(0, .ref x), (1, .int x_1), (2, .int x_2), (4, .int x_4)] [] w (fun r9 w2 => ∃ (r1 : Int32), r9 = some (.int r1) ∧ OW w2 x A ∧ K r1) := by
  refine x_iconst (v := (0 : Int32)) d_L_breaksFit_313 (by decide) ?_
  refine x_istore_n (lv2 := [(3, .int (0 : Int32)), (0, .ref x), (1, .int x_1), (2, .int x_2), (4, .int x_4)]) d_L_breaksFit_314 rfl (by decide) rfl ?_
  obtain ⟨x12, e_x12⟩ : ∃ z : Int32, z = x_4 + (1 : Int32) := ⟨_, rfl⟩
  have hQ := hQ x12 e_x12
  refine x_iinc (v := x12) (lv2 := [(4, .int x12), (3, .int (0 : Int32)), (0, .ref x), (1, .int x_1), (2, .int x_2)]) 4 d_L_breaksFit_315 rfl (by rw [e_x12]; rfl) (by decide) rfl ?_
  refine x_goto (tgt := 84) d_L_breaksFit_318 (by decide) ?_
  refine x_sub [2, 3, 4, 1, 0] (lv2 := [(0, .ref x), (1, .int x_1), (2, .int x_2), (3, .int (0 : Int32)), (4, .int x12)]) rfl ?_
  exact hk_84 x_1 x_2 (0 : Int32) x12 _ hO hQ
def jp_L_breaksFit_300 (A : AB) (K : Int32 → Prop) (k_84 : Int32 → Int32 → Int32 → Int32 → Prop) (x_1 : Int32) (x_2 : Int32) (x_3 : Int32) (x_4 : Int32) (x_8 : Int32) : Prop := ((x_3 = (0 : Int32) → jp_L_breaksFit_313 A K k_84 x_1 x_2 x_4) ∧ (¬ x_3 = (0 : Int32) → ((x_8 = (0 : Int32) → jp_L_breaksFit_313 A K k_84 x_1 x_2 x_4) ∧ (¬ x_8 = (0 : Int32) → ∀ x14 : Int32, x14 = x_4 + (1 : Int32) → k_84 x_1 x_2 (1 : Int32) x14))))
set_option maxHeartbeats 4000000 in
theorem jt_L_breaksFit_300 {G : GX} {l : Launch} {d x : Nat} {A : AB} {K : Int32 → Prop} {k_84 : Int32 → Int32 → Int32 → Int32 → Prop} (hd : 4 ≤ d) (hk_84 : ∀ (x_1 : Int32) (x_2 : Int32) (x_3 : Int32) (x_4 : Int32) (w : HW), OW w x A → k_84 x_1 x_2 x_3 x_4 → X G l m_L_breaksFit d 0 0 0 0 84 [(0, .ref x), (1, .int x_1), (2, .int x_2), (3, .int x_3), (4, .int x_4)] [] w (fun r9 w2 => ∃ (r1 : Int32), r9 = some (.int r1) ∧ OW w2 x A ∧ K r1)) (x_1 : Int32) (x_2 : Int32) (x_3 : Int32) (x_4 : Int32) (x_8 : Int32) (w : HW) (hO : OW w x A) (hQ : jp_L_breaksFit_300 A K k_84 x_1 x_2 x_3 x_4 x_8) : X G l m_L_breaksFit d 0 0 0 0 300 [(0, .ref x), (1, .int x_1), (2, .int x_2), (3, .int x_3), (4, .int x_4), (8, .int x_8)] [] w (fun r9 w2 => ∃ (r1 : Int32), r9 = some (.int r1) ∧ OW w2 x A ∧ K r1) := by
  refine x_iload_n 3 d_L_breaksFit_300 rfl rfl ?_
  refine x_if_eq (tgt := 313) d_L_breaksFit_301 (by decide) (fun c_301_11 => ?_) (fun c_301_11 => ?_)
  · have hQ := hQ.1 c_301_11
    refine x_sub [0, 1, 2, 4] (lv2 := [(0, .ref x), (1, .int x_1), (2, .int x_2), (4, .int x_4)]) rfl ?_
    exact jt_L_breaksFit_313 hd hk_84 x_1 x_2 x_4 _ hO hQ
  · have hQ := hQ.2 c_301_11
    refine x_iload 5 d_L_breaksFit_304 rfl ?_
    refine x_if_eq (tgt := 313) d_L_breaksFit_306 (by decide) (fun c_306_13 => ?_) (fun c_306_13 => ?_)
    · have hQ := hQ.1 c_306_13
      refine x_sub [0, 1, 2, 4] (lv2 := [(0, .ref x), (1, .int x_1), (2, .int x_2), (4, .int x_4)]) rfl ?_
      exact jt_L_breaksFit_313 hd hk_84 x_1 x_2 x_4 _ hO hQ
    · have hQ := hQ.2 c_306_13
      refine x_iconst (v := (1 : Int32)) d_L_breaksFit_309 (by decide) ?_
      refine x_goto (tgt := 314) d_L_breaksFit_310 (by decide) ?_
      refine x_istore_n (lv2 := [(3, .int (1 : Int32)), (0, .ref x), (1, .int x_1), (2, .int x_2), (4, .int x_4), (8, .int x_8)]) d_L_breaksFit_314 rfl (by decide) rfl ?_
      obtain ⟨x14, e_x14⟩ : ∃ z : Int32, z = x_4 + (1 : Int32) := ⟨_, rfl⟩
      have hQ := hQ x14 e_x14
      refine x_iinc (v := x14) (lv2 := [(4, .int x14), (3, .int (1 : Int32)), (0, .ref x), (1, .int x_1), (2, .int x_2), (8, .int x_8)]) 4 d_L_breaksFit_315 rfl (by rw [e_x14]; rfl) (by decide) rfl ?_
      refine x_goto (tgt := 84) d_L_breaksFit_318 (by decide) ?_
      refine x_sub [2, 3, 4, 1, 0] (lv2 := [(0, .ref x), (1, .int x_1), (2, .int x_2), (3, .int (1 : Int32)), (4, .int x14)]) rfl ?_
      exact hk_84 x_1 x_2 (1 : Int32) x14 _ hO hQ
def jp_L_breaksFit_291 (A : AB) (K : Int32 → Prop) (k_84 : Int32 → Int32 → Int32 → Int32 → Prop) (k_203 : Int32 → Int32 → Int32 → Int32 → Int32 → Int32 → Int32 → Int32 → Int32 → Prop) (x_1 : Int32) (x_2 : Int32) (x_3 : Int32) (x_4 : Int32) (x_5 : Int32) (x_6 : Int32) (x_7 : Int32) (x_9 : Int32) : Prop := ∀ x19 : Int32, x19 = x_9 + (1 : Int32) → k_203 x_1 x_2 x_3 x_4 x_5 x_6 x_7 (0 : Int32) x19
set_option maxHeartbeats 4000000 in
theorem jt_L_breaksFit_291 {G : GX} {l : Launch} {d x : Nat} {A : AB} {K : Int32 → Prop} {k_84 : Int32 → Int32 → Int32 → Int32 → Prop} {k_203 : Int32 → Int32 → Int32 → Int32 → Int32 → Int32 → Int32 → Int32 → Int32 → Prop} (hd : 4 ≤ d) (hk_84 : ∀ (x_1 : Int32) (x_2 : Int32) (x_3 : Int32) (x_4 : Int32) (w : HW), OW w x A → k_84 x_1 x_2 x_3 x_4 → X G l m_L_breaksFit d 0 0 0 0 84 [(0, .ref x), (1, .int x_1), (2, .int x_2), (3, .int x_3), (4, .int x_4)] [] w (fun r9 w2 => ∃ (r1 : Int32), r9 = some (.int r1) ∧ OW w2 x A ∧ K r1)) (hk_203 : ∀ (x_1 : Int32) (x_2 : Int32) (x_3 : Int32) (x_4 : Int32) (x_5 : Int32) (x_6 : Int32) (x_7 : Int32) (x_8 : Int32) (x_9 : Int32) (w : HW), OW w x A → k_203 x_1 x_2 x_3 x_4 x_5 x_6 x_7 x_8 x_9 → X G l m_L_breaksFit d 0 0 0 0 203 [(0, .ref x), (1, .int x_1), (2, .int x_2), (3, .int x_3), (4, .int x_4), (5, .int x_5), (6, .int x_6), (7, .int x_7), (8, .int x_8), (9, .int x_9)] [] w (fun r9 w2 => ∃ (r1 : Int32), r9 = some (.int r1) ∧ OW w2 x A ∧ K r1)) (x_1 : Int32) (x_2 : Int32) (x_3 : Int32) (x_4 : Int32) (x_5 : Int32) (x_6 : Int32) (x_7 : Int32) (x_9 : Int32) (w : HW) (hO : OW w x A) (hQ : jp_L_breaksFit_291 A K k_84 k_203 x_1 x_2 x_3 x_4 x_5 x_6 x_7 x_9) : X G l m_L_breaksFit d 0 0 0 0 291 [(0, .ref x), (1, .int x_1), (2, .int x_2), (3, .int x_3), (4, .int x_4), (5, .int x_5), (6, .int x_6), (7, .int x_7), (9, .int x_9)] [] w (fun r9 w2 => ∃ (r1 : Int32), r9 = some (.int r1) ∧ OW w2 x A ∧ K r1) := by
  refine x_iconst (v := (0 : Int32)) d_L_breaksFit_291 (by decide) ?_
  refine x_istore (lv2 := [(8, .int (0 : Int32)), (0, .ref x), (1, .int x_1), (2, .int x_2), (3, .int x_3), (4, .int x_4), (5, .int x_5), (6, .int x_6), (7, .int x_7), (9, .int x_9)]) d_L_breaksFit_292 (by decide) rfl ?_
  obtain ⟨x19, e_x19⟩ : ∃ z : Int32, z = x_9 + (1 : Int32) := ⟨_, rfl⟩
  have hQ := hQ x19 e_x19
  refine x_iinc (v := x19) (lv2 := [(9, .int x19), (8, .int (0 : Int32)), (0, .ref x), (1, .int x_1), (2, .int x_2), (3, .int x_3), (4, .int x_4), (5, .int x_5), (6, .int x_6), (7, .int x_7)]) 9 d_L_breaksFit_294 rfl (by rw [e_x19]; rfl) (by decide) rfl ?_
  refine x_goto (tgt := 203) d_L_breaksFit_297 (by decide) ?_
  refine x_sub [2, 3, 4, 5, 6, 7, 8, 9, 1, 0] (lv2 := [(0, .ref x), (1, .int x_1), (2, .int x_2), (3, .int x_3), (4, .int x_4), (5, .int x_5), (6, .int x_6), (7, .int x_7), (8, .int (0 : Int32)), (9, .int x19)]) rfl ?_
  exact hk_203 x_1 x_2 x_3 x_4 x_5 x_6 x_7 (0 : Int32) x19 _ hO hQ
def jp_L_breaksFit_287 (A : AB) (K : Int32 → Prop) (k_84 : Int32 → Int32 → Int32 → Int32 → Prop) (k_203 : Int32 → Int32 → Int32 → Int32 → Int32 → Int32 → Int32 → Int32 → Int32 → Prop) (x_1 : Int32) (x_2 : Int32) (x_3 : Int32) (x_4 : Int32) (x_5 : Int32) (x_6 : Int32) (x_7 : Int32) (x_9 : Int32) : Prop := ∀ x22 : Int32, x22 = x_9 + (1 : Int32) → k_203 x_1 x_2 x_3 x_4 x_5 x_6 x_7 (1 : Int32) x22
set_option maxHeartbeats 4000000 in
theorem jt_L_breaksFit_287 {G : GX} {l : Launch} {d x : Nat} {A : AB} {K : Int32 → Prop} {k_84 : Int32 → Int32 → Int32 → Int32 → Prop} {k_203 : Int32 → Int32 → Int32 → Int32 → Int32 → Int32 → Int32 → Int32 → Int32 → Prop} (hd : 4 ≤ d) (hk_84 : ∀ (x_1 : Int32) (x_2 : Int32) (x_3 : Int32) (x_4 : Int32) (w : HW), OW w x A → k_84 x_1 x_2 x_3 x_4 → X G l m_L_breaksFit d 0 0 0 0 84 [(0, .ref x), (1, .int x_1), (2, .int x_2), (3, .int x_3), (4, .int x_4)] [] w (fun r9 w2 => ∃ (r1 : Int32), r9 = some (.int r1) ∧ OW w2 x A ∧ K r1)) (hk_203 : ∀ (x_1 : Int32) (x_2 : Int32) (x_3 : Int32) (x_4 : Int32) (x_5 : Int32) (x_6 : Int32) (x_7 : Int32) (x_8 : Int32) (x_9 : Int32) (w : HW), OW w x A → k_203 x_1 x_2 x_3 x_4 x_5 x_6 x_7 x_8 x_9 → X G l m_L_breaksFit d 0 0 0 0 203 [(0, .ref x), (1, .int x_1), (2, .int x_2), (3, .int x_3), (4, .int x_4), (5, .int x_5), (6, .int x_6), (7, .int x_7), (8, .int x_8), (9, .int x_9)] [] w (fun r9 w2 => ∃ (r1 : Int32), r9 = some (.int r1) ∧ OW w2 x A ∧ K r1)) (x_1 : Int32) (x_2 : Int32) (x_3 : Int32) (x_4 : Int32) (x_5 : Int32) (x_6 : Int32) (x_7 : Int32) (x_9 : Int32) (w : HW) (hO : OW w x A) (hQ : jp_L_breaksFit_287 A K k_84 k_203 x_1 x_2 x_3 x_4 x_5 x_6 x_7 x_9) : X G l m_L_breaksFit d 0 0 0 0 287 [(0, .ref x), (1, .int x_1), (2, .int x_2), (3, .int x_3), (4, .int x_4), (5, .int x_5), (6, .int x_6), (7, .int x_7), (9, .int x_9)] [] w (fun r9 w2 => ∃ (r1 : Int32), r9 = some (.int r1) ∧ OW w2 x A ∧ K r1) := by
  refine x_iconst (v := (1 : Int32)) d_L_breaksFit_287 (by decide) ?_
  refine x_goto (tgt := 292) d_L_breaksFit_288 (by decide) ?_
  refine x_istore (lv2 := [(8, .int (1 : Int32)), (0, .ref x), (1, .int x_1), (2, .int x_2), (3, .int x_3), (4, .int x_4), (5, .int x_5), (6, .int x_6), (7, .int x_7), (9, .int x_9)]) d_L_breaksFit_292 (by decide) rfl ?_
  obtain ⟨x22, e_x22⟩ : ∃ z : Int32, z = x_9 + (1 : Int32) := ⟨_, rfl⟩
  have hQ := hQ x22 e_x22
  refine x_iinc (v := x22) (lv2 := [(9, .int x22), (8, .int (1 : Int32)), (0, .ref x), (1, .int x_1), (2, .int x_2), (3, .int x_3), (4, .int x_4), (5, .int x_5), (6, .int x_6), (7, .int x_7)]) 9 d_L_breaksFit_294 rfl (by rw [e_x22]; rfl) (by decide) rfl ?_
  refine x_goto (tgt := 203) d_L_breaksFit_297 (by decide) ?_
  refine x_sub [2, 3, 4, 5, 6, 7, 8, 9, 1, 0] (lv2 := [(0, .ref x), (1, .int x_1), (2, .int x_2), (3, .int x_3), (4, .int x_4), (5, .int x_5), (6, .int x_6), (7, .int x_7), (8, .int (1 : Int32)), (9, .int x22)]) rfl ?_
  exact hk_203 x_1 x_2 x_3 x_4 x_5 x_6 x_7 (1 : Int32) x22 _ hO hQ
def lp_L_breaksFit_203 (A : AB) (K : Int32 → Prop) (k_84 : Int32 → Int32 → Int32 → Int32 → Prop) : Nat → Int32 → Int32 → Int32 → Int32 → Int32 → Int32 → Int32 → Int32 → Int32 → Prop
  | 0, _, _, _, _, _, _, _, _, _ => False
  | n + 1, x_1, x_2, x_3, x_4, x_5, x_6, x_7, x_8, x_9 => ((x_4 ≤ x_9 → jp_L_breaksFit_300 A K k_84 x_1 x_2 x_3 x_4 x_8) ∧ (¬ x_4 ≤ x_9 → ((x_3 = (0 : Int32) → jp_L_breaksFit_300 A K k_84 x_1 x_2 x_3 x_4 x_8) ∧ (¬ x_3 = (0 : Int32) → ((¬ x_8 = (0 : Int32) → jp_L_breaksFit_300 A K k_84 x_1 x_2 x_3 x_4 x_8) ∧ (x_8 = (0 : Int32) → ∀ x17 : Int32, x17 = (qr_brk A x_9 (0 : Int32)) → ((¬ (qr_brk A x_9 (1 : Int32)) = (x_6 - (1 : Int32)) → jp_L_breaksFit_291 A K k_84 (fun v0 v1 v2 v3 v4 v5 v6 v7 v8 => lp_L_breaksFit_203 A K k_84 n v0 v1 v2 v3 v4 v5 v6 v7 v8) x_1 x_2 x_3 x_4 x_5 x_6 x_7 x_9) ∧ ((qr_brk A x_9 (1 : Int32)) = (x_6 - (1 : Int32)) → (((x_5 - (qr_lag A x_7 x_5)) < x17 → jp_L_breaksFit_291 A K k_84 (fun v0 v1 v2 v3 v4 v5 v6 v7 v8 => lp_L_breaksFit_203 A K k_84 n v0 v1 v2 v3 v4 v5 v6 v7 v8) x_1 x_2 x_3 x_4 x_5 x_6 x_7 x_9) ∧ (¬ (x_5 - (qr_lag A x_7 x_5)) < x17 → ((x_5 = (x17 + (1 : Int32)) → jp_L_breaksFit_287 A K k_84 (fun v0 v1 v2 v3 v4 v5 v6 v7 v8 => lp_L_breaksFit_203 A K k_84 n v0 v1 v2 v3 v4 v5 v6 v7 v8) x_1 x_2 x_3 x_4 x_5 x_6 x_7 x_9) ∧ (¬ x_5 = (x17 + (1 : Int32)) → ((x17 ≤ ((x_5 - (1 : Int32)) - (qr_lag A x_7 (x_5 - (1 : Int32)))) → jp_L_breaksFit_291 A K k_84 (fun v0 v1 v2 v3 v4 v5 v6 v7 v8 => lp_L_breaksFit_203 A K k_84 n v0 v1 v2 v3 v4 v5 v6 v7 v8) x_1 x_2 x_3 x_4 x_5 x_6 x_7 x_9) ∧ (¬ x17 ≤ ((x_5 - (1 : Int32)) - (qr_lag A x_7 (x_5 - (1 : Int32)))) → jp_L_breaksFit_287 A K k_84 (fun v0 v1 v2 v3 v4 v5 v6 v7 v8 => lp_L_breaksFit_203 A K k_84 n v0 v1 v2 v3 v4 v5 v6 v7 v8) x_1 x_2 x_3 x_4 x_5 x_6 x_7 x_9))))))))))))))
set_option maxHeartbeats 4000000 in
theorem jt_L_breaksFit_203 {G : GX} {l : Launch} {d x : Nat} {A : AB} {K : Int32 → Prop} {k_84 : Int32 → Int32 → Int32 → Int32 → Prop} (hd : 4 ≤ d) (hk_84 : ∀ (x_1 : Int32) (x_2 : Int32) (x_3 : Int32) (x_4 : Int32) (w : HW), OW w x A → k_84 x_1 x_2 x_3 x_4 → X G l m_L_breaksFit d 0 0 0 0 84 [(0, .ref x), (1, .int x_1), (2, .int x_2), (3, .int x_3), (4, .int x_4)] [] w (fun r9 w2 => ∃ (r1 : Int32), r9 = some (.int r1) ∧ OW w2 x A ∧ K r1)) : ∀ (n : Nat) (x_1 : Int32) (x_2 : Int32) (x_3 : Int32) (x_4 : Int32) (x_5 : Int32) (x_6 : Int32) (x_7 : Int32) (x_8 : Int32) (x_9 : Int32) (w : HW), OW w x A → lp_L_breaksFit_203 A K k_84 n x_1 x_2 x_3 x_4 x_5 x_6 x_7 x_8 x_9 → X G l m_L_breaksFit d 0 0 0 0 203 [(0, .ref x), (1, .int x_1), (2, .int x_2), (3, .int x_3), (4, .int x_4), (5, .int x_5), (6, .int x_6), (7, .int x_7), (8, .int x_8), (9, .int x_9)] [] w (fun r9 w2 => ∃ (r1 : Int32), r9 = some (.int r1) ∧ OW w2 x A ∧ K r1) := by
  intro n
  induction n with
  | zero =>
    intro x_1 x_2 x_3 x_4 x_5 x_6 x_7 x_8 x_9 w hO hQ
    exact hQ.elim
  | succ n ih =>
    intro x_1 x_2 x_3 x_4 x_5 x_6 x_7 x_8 x_9 w hO hQ
    refine x_iload 9 d_L_breaksFit_203 rfl ?_
    refine x_iload 4 d_L_breaksFit_205 rfl ?_
    refine x_icmp_ge (tgt := 300) d_L_breaksFit_207 (by decide) (fun c_207_10 => ?_) (fun c_207_10 => ?_)
    · have hQ := hQ.1 c_207_10
      refine x_sub [0, 1, 2, 3, 4, 8] (lv2 := [(0, .ref x), (1, .int x_1), (2, .int x_2), (3, .int x_3), (4, .int x_4), (8, .int x_8)]) rfl ?_
      exact jt_L_breaksFit_300 hd hk_84 x_1 x_2 x_3 x_4 x_8 _ hO hQ
    · have hQ := hQ.2 c_207_10
      refine x_iload_n 3 d_L_breaksFit_210 rfl rfl ?_
      refine x_if_eq (tgt := 300) d_L_breaksFit_211 (by decide) (fun c_211_15 => ?_) (fun c_211_15 => ?_)
      · have hQ := hQ.1 c_211_15
        refine x_sub [0, 1, 2, 3, 4, 8] (lv2 := [(0, .ref x), (1, .int x_1), (2, .int x_2), (3, .int x_3), (4, .int x_4), (8, .int x_8)]) rfl ?_
        exact jt_L_breaksFit_300 hd hk_84 x_1 x_2 x_3 x_4 x_8 _ hO hQ
      · have hQ := hQ.2 c_211_15
        refine x_iload 8 d_L_breaksFit_214 rfl ?_
        refine x_if_ne (tgt := 300) d_L_breaksFit_216 (by decide) (fun c_216_16 => ?_) (fun c_216_16 => ?_)
        · have hQ := hQ.1 c_216_16
          refine x_sub [0, 1, 2, 3, 4, 8] (lv2 := [(0, .ref x), (1, .int x_1), (2, .int x_2), (3, .int x_3), (4, .int x_4), (8, .int x_8)]) rfl ?_
          exact jt_L_breaksFit_300 hd hk_84 x_1 x_2 x_3 x_4 x_8 _ hO hQ
        · have hQ := hQ.2 c_216_16
          refine x_aload_n 0 d_L_breaksFit_219 rfl rfl ?_
          refine x_iload 9 d_L_breaksFit_220 rfl ?_
          refine x_iconst (v := (0 : Int32)) d_L_breaksFit_222 (by decide) ?_
          refine x_invV (rest := []) (d' := d - 1) (mc' := 0) (ms' := 0) [.int x_9, .int (0 : Int32)] k_X9_breakAt lk_L_27 (OWx hO) rfl rfl rfl (Nat.le_of_ble_eq_true rfl) (by omega) (Nat.le_of_ble_eq_true rfl) (Nat.le_of_ble_eq_true rfl) d_L_breaksFit_223 ((sw_breakAt (d := d - 1) (by omega) hO).mono (fun r w2 hr => ?_))
          obtain ⟨rfl, hO⟩ := hr
          refine x_topi (fun x17 e_x17 => ?_)
          have hQ := hQ x17 e_x17
          refine x_istore (lv2 := [(10, .int x17), (0, .ref x), (1, .int x_1), (2, .int x_2), (3, .int x_3), (4, .int x_4), (5, .int x_5), (6, .int x_6), (7, .int x_7), (8, .int x_8), (9, .int x_9)]) d_L_breaksFit_226 (by decide) rfl ?_
          refine x_aload_n 1 d_L_breaksFit_228 rfl rfl ?_
          refine x_iload 10 d_L_breaksFit_229 rfl ?_
          refine x_iconst (v := (1 : Int32)) d_L_breaksFit_231 (by decide) ?_
          refine x_invV (rest := []) (d' := d - 1) (mc' := 0) (ms' := 0) [.int x_9, .int (1 : Int32)] k_X9_breakAt lk_L_27 (OWx hO) rfl rfl rfl (Nat.le_of_ble_eq_true rfl) (by omega) (Nat.le_of_ble_eq_true rfl) (Nat.le_of_ble_eq_true rfl) d_L_breaksFit_232 ((sw_breakAt (d := d - 1) (by omega) hO).mono (fun r w2 hr => ?_))
          obtain ⟨rfl, hO⟩ := hr
          refine x_iload 7 d_L_breaksFit_235 rfl ?_
          refine x_iconst (v := (1 : Int32)) d_L_breaksFit_237 (by decide) ?_
          refine x_isub d_L_breaksFit_238 ?_
          refine x_icmp_ne (tgt := 291) d_L_breaksFit_239 (by decide) (fun c_239_18 => ?_) (fun c_239_18 => ?_)
          · have hQ := hQ.1 c_239_18
            refine x_sub [1, 2, 3, 4, 5, 6, 7, 8, 10] (lv2 := [(0, .ref x), (1, .int x_1), (2, .int x_2), (3, .int x_3), (4, .int x_4), (5, .int x_5), (6, .int x_6), (7, .int x_7), (9, .int x_9)]) rfl ?_
            exact jt_L_breaksFit_291 hd hk_84 ih x_1 x_2 x_3 x_4 x_5 x_6 x_7 x_9 _ hO hQ
          · have hQ := hQ.2 c_239_18
            refine x_iload 6 d_L_breaksFit_242 rfl ?_
            refine x_aload_n 1 d_L_breaksFit_244 rfl rfl ?_
            refine x_iload 8 d_L_breaksFit_245 rfl ?_
            refine x_iload 6 d_L_breaksFit_247 rfl ?_
            refine x_invV (rest := [.int x_5]) (d' := d - 1) (mc' := 0) (ms' := 0) [.int x_7, .int x_5] k_X9_lag lk_L_33 (OWx hO) rfl rfl rfl (Nat.le_of_ble_eq_true rfl) (by omega) (Nat.le_of_ble_eq_true rfl) (Nat.le_of_ble_eq_true rfl) d_L_breaksFit_249 ((sw_lag (d := d - 1) (by omega) hO).mono (fun r w2 hr => ?_))
            obtain ⟨rfl, hO⟩ := hr
            refine x_isub d_L_breaksFit_252 ?_
            refine x_iload 0 d_L_breaksFit_253 rfl ?_
            refine x_icmp_lt (tgt := 291) d_L_breaksFit_255 (by decide) (fun c_255_20 => ?_) (fun c_255_20 => ?_)
            · have hQ := hQ.1 c_255_20
              refine x_sub [1, 2, 3, 4, 5, 6, 7, 8, 10] (lv2 := [(0, .ref x), (1, .int x_1), (2, .int x_2), (3, .int x_3), (4, .int x_4), (5, .int x_5), (6, .int x_6), (7, .int x_7), (9, .int x_9)]) rfl ?_
              exact jt_L_breaksFit_291 hd hk_84 ih x_1 x_2 x_3 x_4 x_5 x_6 x_7 x_9 _ hO hQ
            · have hQ := hQ.2 c_255_20
              refine x_iload 6 d_L_breaksFit_258 rfl ?_
              refine x_iload 0 d_L_breaksFit_260 rfl ?_
              refine x_iconst (v := (1 : Int32)) d_L_breaksFit_262 (by decide) ?_
              refine x_iadd d_L_breaksFit_263 ?_
              refine x_icmp_eq (tgt := 287) d_L_breaksFit_264 (by decide) (fun c_264_21 => ?_) (fun c_264_21 => ?_)
              · have hQ := hQ.1 c_264_21
                refine x_sub [1, 2, 3, 4, 5, 6, 7, 8, 10] (lv2 := [(0, .ref x), (1, .int x_1), (2, .int x_2), (3, .int x_3), (4, .int x_4), (5, .int x_5), (6, .int x_6), (7, .int x_7), (9, .int x_9)]) rfl ?_
                exact jt_L_breaksFit_287 hd hk_84 ih x_1 x_2 x_3 x_4 x_5 x_6 x_7 x_9 _ hO hQ
              · have hQ := hQ.2 c_264_21
                refine x_iload 6 d_L_breaksFit_267 rfl ?_
                refine x_iconst (v := (1 : Int32)) d_L_breaksFit_269 (by decide) ?_
                refine x_isub d_L_breaksFit_270 ?_
                refine x_aload_n 1 d_L_breaksFit_271 rfl rfl ?_
                refine x_iload 8 d_L_breaksFit_272 rfl ?_
                refine x_iload 6 d_L_breaksFit_274 rfl ?_
                refine x_iconst (v := (1 : Int32)) d_L_breaksFit_276 (by decide) ?_
                refine x_isub d_L_breaksFit_277 ?_
                refine x_invV (rest := [.int (x_5 - (1 : Int32))]) (d' := d - 1) (mc' := 0) (ms' := 0) [.int x_7, .int (x_5 - (1 : Int32))] k_X9_lag lk_L_33 (OWx hO) rfl rfl rfl (Nat.le_of_ble_eq_true rfl) (by omega) (Nat.le_of_ble_eq_true rfl) (Nat.le_of_ble_eq_true rfl) d_L_breaksFit_278 ((sw_lag (d := d - 1) (by omega) hO).mono (fun r w2 hr => ?_))
                obtain ⟨rfl, hO⟩ := hr
                refine x_isub d_L_breaksFit_281 ?_
                refine x_iload 0 d_L_breaksFit_282 rfl ?_
                refine x_icmp_ge (tgt := 291) d_L_breaksFit_284 (by decide) (fun c_284_23 => ?_) (fun c_284_23 => ?_)
                · have hQ := hQ.1 c_284_23
                  refine x_sub [1, 2, 3, 4, 5, 6, 7, 8, 10] (lv2 := [(0, .ref x), (1, .int x_1), (2, .int x_2), (3, .int x_3), (4, .int x_4), (5, .int x_5), (6, .int x_6), (7, .int x_7), (9, .int x_9)]) rfl ?_
                  exact jt_L_breaksFit_291 hd hk_84 ih x_1 x_2 x_3 x_4 x_5 x_6 x_7 x_9 _ hO hQ
                · have hQ := hQ.2 c_284_23
                  refine x_sub [1, 2, 3, 4, 5, 6, 7, 8, 10] (lv2 := [(0, .ref x), (1, .int x_1), (2, .int x_2), (3, .int x_3), (4, .int x_4), (5, .int x_5), (6, .int x_6), (7, .int x_7), (9, .int x_9)]) rfl ?_
                  exact jt_L_breaksFit_287 hd hk_84 ih x_1 x_2 x_3 x_4 x_5 x_6 x_7 x_9 _ hO hQ
def jp_L_breaksFit_198 (A : AB) (K : Int32 → Prop) (k_84 : Int32 → Int32 → Int32 → Int32 → Prop) (x_1 : Int32) (x_2 : Int32) (x_4 : Int32) (x_5 : Int32) (x_6 : Int32) (x_7 : Int32) (x_8 : Int32) : Prop := ∃ m : Nat, lp_L_breaksFit_203 A K k_84 m x_1 x_2 (0 : Int32) x_4 x_5 x_6 x_7 x_8 (0 : Int32)
set_option maxHeartbeats 4000000 in
theorem jt_L_breaksFit_198 {G : GX} {l : Launch} {d x : Nat} {A : AB} {K : Int32 → Prop} {k_84 : Int32 → Int32 → Int32 → Int32 → Prop} (hd : 4 ≤ d) (hk_84 : ∀ (x_1 : Int32) (x_2 : Int32) (x_3 : Int32) (x_4 : Int32) (w : HW), OW w x A → k_84 x_1 x_2 x_3 x_4 → X G l m_L_breaksFit d 0 0 0 0 84 [(0, .ref x), (1, .int x_1), (2, .int x_2), (3, .int x_3), (4, .int x_4)] [] w (fun r9 w2 => ∃ (r1 : Int32), r9 = some (.int r1) ∧ OW w2 x A ∧ K r1)) (x_1 : Int32) (x_2 : Int32) (x_4 : Int32) (x_5 : Int32) (x_6 : Int32) (x_7 : Int32) (x_8 : Int32) (w : HW) (hO : OW w x A) (hQ : jp_L_breaksFit_198 A K k_84 x_1 x_2 x_4 x_5 x_6 x_7 x_8) : X G l m_L_breaksFit d 0 0 0 0 198 [(0, .ref x), (1, .int x_1), (2, .int x_2), (4, .int x_4), (5, .int x_5), (6, .int x_6), (7, .int x_7), (8, .int x_8)] [] w (fun r9 w2 => ∃ (r1 : Int32), r9 = some (.int r1) ∧ OW w2 x A ∧ K r1) := by
  refine x_iconst (v := (0 : Int32)) d_L_breaksFit_198 (by decide) ?_
  refine x_istore_n (lv2 := [(3, .int (0 : Int32)), (0, .ref x), (1, .int x_1), (2, .int x_2), (4, .int x_4), (5, .int x_5), (6, .int x_6), (7, .int x_7), (8, .int x_8)]) d_L_breaksFit_199 rfl (by decide) rfl ?_
  refine x_iconst (v := (0 : Int32)) d_L_breaksFit_200 (by decide) ?_
  refine x_istore (lv2 := [(9, .int (0 : Int32)), (3, .int (0 : Int32)), (0, .ref x), (1, .int x_1), (2, .int x_2), (4, .int x_4), (5, .int x_5), (6, .int x_6), (7, .int x_7), (8, .int x_8)]) d_L_breaksFit_201 (by decide) rfl ?_
  refine x_sub [2, 3, 4, 1, 5, 6, 7, 8, 9, 0] (lv2 := [(0, .ref x), (1, .int x_1), (2, .int x_2), (3, .int (0 : Int32)), (4, .int x_4), (5, .int x_5), (6, .int x_6), (7, .int x_7), (8, .int x_8), (9, .int (0 : Int32))]) rfl ?_
  obtain ⟨m, hQ⟩ := hQ
  exact jt_L_breaksFit_203 hd hk_84 m x_1 x_2 (0 : Int32) x_4 x_5 x_6 x_7 x_8 (0 : Int32) _ hO hQ
def lp_L_breaksFit_84 (A : AB) (K : Int32 → Prop) : Nat → Int32 → Int32 → Int32 → Int32 → Prop
  | 0, _, _, _, _ => False
  | n + 1, x_1, x_2, x_3, x_4 => ((x_1 ≤ x_4 → (narrow .boolean (.int x_3) = .int x_3) ∧ K x_3) ∧ (¬ x_1 ≤ x_4 → ((x_3 = (0 : Int32) → (narrow .boolean (.int x_3) = .int x_3) ∧ K x_3) ∧ (¬ x_3 = (0 : Int32) → ∀ x6 : Int32, x6 = (qr_brk A x_4 (0 : Int32)) → ∀ x7 : Int32, x7 = (qr_brk A x_4 (1 : Int32)) → ∀ x8 : Int32, x8 = (qr_brk A x_4 (2 : Int32)) → ((x6 ≤ (qr_brk A (x_4 - (1 : Int32)) (0 : Int32)) → jp_L_breaksFit_198 A K (fun v0 v1 v2 v3 => lp_L_breaksFit_84 A K n v0 v1 v2 v3) x_1 x_2 x_4 x6 x7 x8 (0 : Int32)) ∧ (¬ x6 ≤ (qr_brk A (x_4 - (1 : Int32)) (0 : Int32)) → (((8000 : Int32) < x6 → jp_L_breaksFit_198 A K (fun v0 v1 v2 v3 => lp_L_breaksFit_84 A K n v0 v1 v2 v3) x_1 x_2 x_4 x6 x7 x8 (0 : Int32)) ∧ (¬ (8000 : Int32) < x6 → ((x7 < (1 : Int32) → jp_L_breaksFit_198 A K (fun v0 v1 v2 v3 => lp_L_breaksFit_84 A K n v0 v1 v2 v3) x_1 x_2 x_4 x6 x7 x8 (0 : Int32)) ∧ (¬ x7 < (1 : Int32) → (((qr_count A (2 : Int32)) < x7 → jp_L_breaksFit_198 A K (fun v0 v1 v2 v3 => lp_L_breaksFit_84 A K n v0 v1 v2 v3) x_1 x_2 x_4 x6 x7 x8 (0 : Int32)) ∧ (¬ (qr_count A (2 : Int32)) < x7 → ((x8 < (0 : Int32) → jp_L_breaksFit_198 A K (fun v0 v1 v2 v3 => lp_L_breaksFit_84 A K n v0 v1 v2 v3) x_1 x_2 x_4 x6 x7 x8 (0 : Int32)) ∧ (¬ x8 < (0 : Int32) → (((3 : Int32) ≤ x8 → jp_L_breaksFit_198 A K (fun v0 v1 v2 v3 => lp_L_breaksFit_84 A K n v0 v1 v2 v3) x_1 x_2 x_4 x6 x7 x8 (0 : Int32)) ∧ (¬ (3 : Int32) ≤ x8 → ((¬ ((x_2 >>> (x8 &&& 31)) &&& (1 : Int32)) = (1 : Int32) → jp_L_breaksFit_198 A K (fun v0 v1 v2 v3 => lp_L_breaksFit_84 A K n v0 v1 v2 v3) x_1 x_2 x_4 x6 x7 x8 (0 : Int32)) ∧ (((x_2 >>> (x8 &&& 31)) &&& (1 : Int32)) = (1 : Int32) → (((qr_lag A x8 x6) ≤ (0 : Int32) → jp_L_breaksFit_198 A K (fun v0 v1 v2 v3 => lp_L_breaksFit_84 A K n v0 v1 v2 v3) x_1 x_2 x_4 x6 x7 x8 (0 : Int32)) ∧ (¬ (qr_lag A x8 x6) ≤ (0 : Int32) → ∃ m : Nat, lp_L_breaksFit_203 A K (fun v0 v1 v2 v3 => lp_L_breaksFit_84 A K n v0 v1 v2 v3) m x_1 x_2 (1 : Int32) x_4 x6 x7 x8 (0 : Int32) (0 : Int32)))))))))))))))))))))
set_option maxHeartbeats 4000000 in
theorem jt_L_breaksFit_84 {G : GX} {l : Launch} {d x : Nat} {A : AB} {K : Int32 → Prop} (hd : 4 ≤ d) : ∀ (n : Nat) (x_1 : Int32) (x_2 : Int32) (x_3 : Int32) (x_4 : Int32) (w : HW), OW w x A → lp_L_breaksFit_84 A K n x_1 x_2 x_3 x_4 → X G l m_L_breaksFit d 0 0 0 0 84 [(0, .ref x), (1, .int x_1), (2, .int x_2), (3, .int x_3), (4, .int x_4)] [] w (fun r9 w2 => ∃ (r1 : Int32), r9 = some (.int r1) ∧ OW w2 x A ∧ K r1) := by
  intro n
  induction n with
  | zero =>
    intro x_1 x_2 x_3 x_4 w hO hQ
    exact hQ.elim
  | succ n ih =>
    intro x_1 x_2 x_3 x_4 w hO hQ
    refine x_iload 4 d_L_breaksFit_84 rfl ?_
    refine x_iload_n 1 d_L_breaksFit_86 rfl rfl ?_
    refine x_icmp_ge (tgt := 321) d_L_breaksFit_87 (by decide) (fun c_87_4 => ?_) (fun c_87_4 => ?_)
    · have hQ := hQ.1 c_87_4
      refine x_iload_n 3 d_L_breaksFit_321 rfl rfl ?_
      exact x_iret (retB d_L_breaksFit_322 rfl hQ.1) ⟨_, rfl, hO, hQ.2⟩
    · have hQ := hQ.2 c_87_4
      refine x_iload_n 3 d_L_breaksFit_90 rfl rfl ?_
      refine x_if_eq (tgt := 321) d_L_breaksFit_91 (by decide) (fun c_91_5 => ?_) (fun c_91_5 => ?_)
      · have hQ := hQ.1 c_91_5
        refine x_iload_n 3 d_L_breaksFit_321 rfl rfl ?_
        exact x_iret (retB d_L_breaksFit_322 rfl hQ.1) ⟨_, rfl, hO, hQ.2⟩
      · have hQ := hQ.2 c_91_5
        refine x_aload_n 0 d_L_breaksFit_94 rfl rfl ?_
        refine x_iload 4 d_L_breaksFit_95 rfl ?_
        refine x_iconst (v := (0 : Int32)) d_L_breaksFit_97 (by decide) ?_
        refine x_invV (rest := []) (d' := d - 1) (mc' := 0) (ms' := 0) [.int x_4, .int (0 : Int32)] k_X9_breakAt lk_L_27 (OWx hO) rfl rfl rfl (Nat.le_of_ble_eq_true rfl) (by omega) (Nat.le_of_ble_eq_true rfl) (Nat.le_of_ble_eq_true rfl) d_L_breaksFit_98 ((sw_breakAt (d := d - 1) (by omega) hO).mono (fun r w2 hr => ?_))
        obtain ⟨rfl, hO⟩ := hr
        refine x_topi (fun x6 e_x6 => ?_)
        have hQ := hQ x6 e_x6
        refine x_istore (lv2 := [(5, .int x6), (0, .ref x), (1, .int x_1), (2, .int x_2), (3, .int x_3), (4, .int x_4)]) d_L_breaksFit_101 (by decide) rfl ?_
        refine x_aload_n 1 d_L_breaksFit_103 rfl rfl ?_
        refine x_iload 5 d_L_breaksFit_104 rfl ?_
        refine x_iconst (v := (1 : Int32)) d_L_breaksFit_106 (by decide) ?_
        refine x_invV (rest := []) (d' := d - 1) (mc' := 0) (ms' := 0) [.int x_4, .int (1 : Int32)] k_X9_breakAt lk_L_27 (OWx hO) rfl rfl rfl (Nat.le_of_ble_eq_true rfl) (by omega) (Nat.le_of_ble_eq_true rfl) (Nat.le_of_ble_eq_true rfl) d_L_breaksFit_107 ((sw_breakAt (d := d - 1) (by omega) hO).mono (fun r w2 hr => ?_))
        obtain ⟨rfl, hO⟩ := hr
        refine x_topi (fun x7 e_x7 => ?_)
        have hQ := hQ x7 e_x7
        refine x_istore (lv2 := [(6, .int x7), (5, .int x6), (0, .ref x), (1, .int x_1), (2, .int x_2), (3, .int x_3), (4, .int x_4)]) d_L_breaksFit_110 (by decide) rfl ?_
        refine x_aload_n 2 d_L_breaksFit_112 rfl rfl ?_
        refine x_iload 6 d_L_breaksFit_113 rfl ?_
        refine x_iconst (v := (2 : Int32)) d_L_breaksFit_115 (by decide) ?_
        refine x_invV (rest := []) (d' := d - 1) (mc' := 0) (ms' := 0) [.int x_4, .int (2 : Int32)] k_X9_breakAt lk_L_27 (OWx hO) rfl rfl rfl (Nat.le_of_ble_eq_true rfl) (by omega) (Nat.le_of_ble_eq_true rfl) (Nat.le_of_ble_eq_true rfl) d_L_breaksFit_116 ((sw_breakAt (d := d - 1) (by omega) hO).mono (fun r w2 hr => ?_))
        obtain ⟨rfl, hO⟩ := hr
        refine x_topi (fun x8 e_x8 => ?_)
        have hQ := hQ x8 e_x8
        refine x_istore (lv2 := [(7, .int x8), (6, .int x7), (5, .int x6), (0, .ref x), (1, .int x_1), (2, .int x_2), (3, .int x_3), (4, .int x_4)]) d_L_breaksFit_119 (by decide) rfl ?_
        refine x_iconst (v := (0 : Int32)) d_L_breaksFit_121 (by decide) ?_
        refine x_istore (lv2 := [(8, .int (0 : Int32)), (7, .int x8), (6, .int x7), (5, .int x6), (0, .ref x), (1, .int x_1), (2, .int x_2), (3, .int x_3), (4, .int x_4)]) d_L_breaksFit_122 (by decide) rfl ?_
        refine x_iload 3 d_L_breaksFit_124 rfl ?_
        refine x_aload_n 4 d_L_breaksFit_126 rfl rfl ?_
        refine x_iload 8 d_L_breaksFit_127 rfl ?_
        refine x_iconst (v := (1 : Int32)) d_L_breaksFit_129 (by decide) ?_
        refine x_isub d_L_breaksFit_130 ?_
        refine x_iconst (v := (0 : Int32)) d_L_breaksFit_131 (by decide) ?_
        refine x_invV (rest := [.int x6]) (d' := d - 1) (mc' := 0) (ms' := 0) [.int (x_4 - (1 : Int32)), .int (0 : Int32)] k_X9_breakAt lk_L_27 (OWx hO) rfl rfl rfl (Nat.le_of_ble_eq_true rfl) (by omega) (Nat.le_of_ble_eq_true rfl) (Nat.le_of_ble_eq_true rfl) d_L_breaksFit_132 ((sw_breakAt (d := d - 1) (by omega) hO).mono (fun r w2 hr => ?_))
        obtain ⟨rfl, hO⟩ := hr
        refine x_icmp_le (tgt := 198) d_L_breaksFit_135 (by decide) (fun c_135_9 => ?_) (fun c_135_9 => ?_)
        · have hQ := hQ.1 c_135_9
          refine x_sub [4, 5, 6, 8, 3, 2, 1, 0] (lv2 := [(0, .ref x), (1, .int x_1), (2, .int x_2), (4, .int x_4), (5, .int x6), (6, .int x7), (7, .int x8), (8, .int (0 : Int32))]) rfl ?_
          exact jt_L_breaksFit_198 hd ih x_1 x_2 x_4 x6 x7 x8 (0 : Int32) _ hO hQ
        · have hQ := hQ.2 c_135_9
          refine x_iload 3 d_L_breaksFit_138 rfl ?_
          refine x_sipush (v := (8000 : Int32)) d_L_breaksFit_140 (by decide) ?_
          refine x_icmp_gt (tgt := 198) d_L_breaksFit_143 (by decide) (fun c_143_24 => ?_) (fun c_143_24 => ?_)
          · have hQ := hQ.1 c_143_24
            refine x_sub [4, 5, 6, 8, 3, 2, 1, 0] (lv2 := [(0, .ref x), (1, .int x_1), (2, .int x_2), (4, .int x_4), (5, .int x6), (6, .int x7), (7, .int x8), (8, .int (0 : Int32))]) rfl ?_
            exact jt_L_breaksFit_198 hd ih x_1 x_2 x_4 x6 x7 x8 (0 : Int32) _ hO hQ
          · have hQ := hQ.2 c_143_24
            refine x_iload 2 d_L_breaksFit_146 rfl ?_
            refine x_iconst (v := (1 : Int32)) d_L_breaksFit_148 (by decide) ?_
            refine x_icmp_lt (tgt := 198) d_L_breaksFit_149 (by decide) (fun c_149_25 => ?_) (fun c_149_25 => ?_)
            · have hQ := hQ.1 c_149_25
              refine x_sub [4, 5, 6, 8, 3, 2, 1, 0] (lv2 := [(0, .ref x), (1, .int x_1), (2, .int x_2), (4, .int x_4), (5, .int x6), (6, .int x7), (7, .int x8), (8, .int (0 : Int32))]) rfl ?_
              exact jt_L_breaksFit_198 hd ih x_1 x_2 x_4 x6 x7 x8 (0 : Int32) _ hO hQ
            · have hQ := hQ.2 c_149_25
              refine x_iload 2 d_L_breaksFit_152 rfl ?_
              refine x_aload_n 4 d_L_breaksFit_154 rfl rfl ?_
              refine x_iconst (v := (2 : Int32)) d_L_breaksFit_155 (by decide) ?_
              refine x_invV (rest := [.int x7]) (d' := d - 1) (mc' := 0) (ms' := 0) [.int (2 : Int32)] k_X9_count lk_L_21 (OWx hO) rfl rfl rfl (Nat.le_of_ble_eq_true rfl) (by omega) (Nat.le_of_ble_eq_true rfl) (Nat.le_of_ble_eq_true rfl) d_L_breaksFit_156 ((sw_count (d := d - 1) (by omega) hO (h6 := by decide)).mono (fun r w2 hr => ?_))
              obtain ⟨rfl, hO⟩ := hr
              refine x_icmp_gt (tgt := 198) d_L_breaksFit_159 (by decide) (fun c_159_26 => ?_) (fun c_159_26 => ?_)
              · have hQ := hQ.1 c_159_26
                refine x_sub [4, 5, 6, 8, 3, 2, 1, 0] (lv2 := [(0, .ref x), (1, .int x_1), (2, .int x_2), (4, .int x_4), (5, .int x6), (6, .int x7), (7, .int x8), (8, .int (0 : Int32))]) rfl ?_
                exact jt_L_breaksFit_198 hd ih x_1 x_2 x_4 x6 x7 x8 (0 : Int32) _ hO hQ
              · have hQ := hQ.2 c_159_26
                refine x_iload 1 d_L_breaksFit_162 rfl ?_
                refine x_if_lt (tgt := 198) d_L_breaksFit_164 (by decide) (fun c_164_27 => ?_) (fun c_164_27 => ?_)
                · have hQ := hQ.1 c_164_27
                  refine x_sub [4, 5, 6, 8, 3, 2, 1, 0] (lv2 := [(0, .ref x), (1, .int x_1), (2, .int x_2), (4, .int x_4), (5, .int x6), (6, .int x7), (7, .int x8), (8, .int (0 : Int32))]) rfl ?_
                  exact jt_L_breaksFit_198 hd ih x_1 x_2 x_4 x6 x7 x8 (0 : Int32) _ hO hQ
                · have hQ := hQ.2 c_164_27
                  refine x_iload 1 d_L_breaksFit_167 rfl ?_
                  refine x_iconst (v := (3 : Int32)) d_L_breaksFit_169 (by decide) ?_
                  refine x_icmp_ge (tgt := 198) d_L_breaksFit_170 (by decide) (fun c_170_28 => ?_) (fun c_170_28 => ?_)
                  · have hQ := hQ.1 c_170_28
                    refine x_sub [4, 5, 6, 8, 3, 2, 1, 0] (lv2 := [(0, .ref x), (1, .int x_1), (2, .int x_2), (4, .int x_4), (5, .int x6), (6, .int x7), (7, .int x8), (8, .int (0 : Int32))]) rfl ?_
                    exact jt_L_breaksFit_198 hd ih x_1 x_2 x_4 x6 x7 x8 (0 : Int32) _ hO hQ
                  · have hQ := hQ.2 c_170_28
                    refine x_iload_n 6 d_L_breaksFit_173 rfl rfl ?_
                    refine x_iload 1 d_L_breaksFit_174 rfl ?_
                    refine x_ishr d_L_breaksFit_176 ?_
                    refine x_iconst (v := (1 : Int32)) d_L_breaksFit_177 (by decide) ?_
                    refine x_iand d_L_breaksFit_178 ?_
                    refine x_iconst (v := (1 : Int32)) d_L_breaksFit_179 (by decide) ?_
                    refine x_icmp_ne (tgt := 198) d_L_breaksFit_180 (by decide) (fun c_180_29 => ?_) (fun c_180_29 => ?_)
                    · have hQ := hQ.1 c_180_29
                      refine x_sub [4, 5, 6, 8, 3, 2, 1, 0] (lv2 := [(0, .ref x), (1, .int x_1), (2, .int x_2), (4, .int x_4), (5, .int x6), (6, .int x7), (7, .int x8), (8, .int (0 : Int32))]) rfl ?_
                      exact jt_L_breaksFit_198 hd ih x_1 x_2 x_4 x6 x7 x8 (0 : Int32) _ hO hQ
                    · have hQ := hQ.2 c_180_29
                      refine x_aload_n 4 d_L_breaksFit_183 rfl rfl ?_
                      refine x_iload 1 d_L_breaksFit_184 rfl ?_
                      refine x_iload 3 d_L_breaksFit_186 rfl ?_
                      refine x_invV (rest := []) (d' := d - 1) (mc' := 0) (ms' := 0) [.int x8, .int x6] k_X9_lag lk_L_33 (OWx hO) rfl rfl rfl (Nat.le_of_ble_eq_true rfl) (by omega) (Nat.le_of_ble_eq_true rfl) (Nat.le_of_ble_eq_true rfl) d_L_breaksFit_188 ((sw_lag (d := d - 1) (by omega) hO).mono (fun r w2 hr => ?_))
                      obtain ⟨rfl, hO⟩ := hr
                      refine x_if_le (tgt := 198) d_L_breaksFit_191 (by decide) (fun c_191_30 => ?_) (fun c_191_30 => ?_)
                      · have hQ := hQ.1 c_191_30
                        refine x_sub [4, 5, 6, 8, 3, 2, 1, 0] (lv2 := [(0, .ref x), (1, .int x_1), (2, .int x_2), (4, .int x_4), (5, .int x6), (6, .int x7), (7, .int x8), (8, .int (0 : Int32))]) rfl ?_
                        exact jt_L_breaksFit_198 hd ih x_1 x_2 x_4 x6 x7 x8 (0 : Int32) _ hO hQ
                      · have hQ := hQ.2 c_191_30
                        refine x_iconst (v := (1 : Int32)) d_L_breaksFit_194 (by decide) ?_
                        refine x_goto (tgt := 199) d_L_breaksFit_195 (by decide) ?_
                        refine x_istore_n (lv2 := [(3, .int (1 : Int32)), (8, .int (0 : Int32)), (7, .int x8), (6, .int x7), (5, .int x6), (0, .ref x), (1, .int x_1), (2, .int x_2), (4, .int x_4)]) d_L_breaksFit_199 rfl (by decide) rfl ?_
                        refine x_iconst (v := (0 : Int32)) d_L_breaksFit_200 (by decide) ?_
                        refine x_istore (lv2 := [(9, .int (0 : Int32)), (3, .int (1 : Int32)), (8, .int (0 : Int32)), (7, .int x8), (6, .int x7), (5, .int x6), (0, .ref x), (1, .int x_1), (2, .int x_2), (4, .int x_4)]) d_L_breaksFit_201 (by decide) rfl ?_
                        refine x_sub [6, 7, 8, 1, 9, 5, 4, 3, 2, 0] (lv2 := [(0, .ref x), (1, .int x_1), (2, .int x_2), (3, .int (1 : Int32)), (4, .int x_4), (5, .int x6), (6, .int x7), (7, .int x8), (8, .int (0 : Int32)), (9, .int (0 : Int32))]) rfl ?_
                        obtain ⟨m, hQ⟩ := hQ
                        exact jt_L_breaksFit_203 hd ih m x_1 x_2 (1 : Int32) x_4 x6 x7 x8 (0 : Int32) (0 : Int32) _ hO hQ
def jp_L_breaksFit_79 (A : AB) (K : Int32 → Prop) (x_1 : Int32) (x_2 : Int32) : Prop := ∃ m : Nat, lp_L_breaksFit_84 A K m x_1 x_2 (0 : Int32) (1 : Int32)
set_option maxHeartbeats 4000000 in
theorem jt_L_breaksFit_79 {G : GX} {l : Launch} {d x : Nat} {A : AB} {K : Int32 → Prop} (hd : 4 ≤ d) (x_1 : Int32) (x_2 : Int32) (w : HW) (hO : OW w x A) (hQ : jp_L_breaksFit_79 A K x_1 x_2) : X G l m_L_breaksFit d 0 0 0 0 79 [(0, .ref x), (1, .int x_1), (2, .int x_2)] [] w (fun r9 w2 => ∃ (r1 : Int32), r9 = some (.int r1) ∧ OW w2 x A ∧ K r1) := by
  refine x_iconst (v := (0 : Int32)) d_L_breaksFit_79 (by decide) ?_
  refine x_istore_n (lv2 := [(3, .int (0 : Int32)), (0, .ref x), (1, .int x_1), (2, .int x_2)]) d_L_breaksFit_80 rfl (by decide) rfl ?_
  refine x_iconst (v := (1 : Int32)) d_L_breaksFit_81 (by decide) ?_
  refine x_istore (lv2 := [(4, .int (1 : Int32)), (3, .int (0 : Int32)), (0, .ref x), (1, .int x_1), (2, .int x_2)]) d_L_breaksFit_82 (by decide) rfl ?_
  refine x_sub [2, 3, 4, 1, 0] (lv2 := [(0, .ref x), (1, .int x_1), (2, .int x_2), (3, .int (0 : Int32)), (4, .int (1 : Int32))]) rfl ?_
  obtain ⟨m, hQ⟩ := hQ
  exact jt_L_breaksFit_84 hd m x_1 x_2 (0 : Int32) (1 : Int32) _ hO hQ
def jp_L_breaksFit_75 (A : AB) (K : Int32 → Prop) (x_1 : Int32) (x_2 : Int32) : Prop := ∃ m : Nat, lp_L_breaksFit_84 A K m x_1 x_2 (1 : Int32) (1 : Int32)
set_option maxHeartbeats 4000000 in
theorem jt_L_breaksFit_75 {G : GX} {l : Launch} {d x : Nat} {A : AB} {K : Int32 → Prop} (hd : 4 ≤ d) (x_1 : Int32) (x_2 : Int32) (w : HW) (hO : OW w x A) (hQ : jp_L_breaksFit_75 A K x_1 x_2) : X G l m_L_breaksFit d 0 0 0 0 75 [(0, .ref x), (1, .int x_1), (2, .int x_2)] [] w (fun r9 w2 => ∃ (r1 : Int32), r9 = some (.int r1) ∧ OW w2 x A ∧ K r1) := by
  refine x_iconst (v := (1 : Int32)) d_L_breaksFit_75 (by decide) ?_
  refine x_goto (tgt := 80) d_L_breaksFit_76 (by decide) ?_
  refine x_istore_n (lv2 := [(3, .int (1 : Int32)), (0, .ref x), (1, .int x_1), (2, .int x_2)]) d_L_breaksFit_80 rfl (by decide) rfl ?_
  refine x_iconst (v := (1 : Int32)) d_L_breaksFit_81 (by decide) ?_
  refine x_istore (lv2 := [(4, .int (1 : Int32)), (3, .int (1 : Int32)), (0, .ref x), (1, .int x_1), (2, .int x_2)]) d_L_breaksFit_82 (by decide) rfl ?_
  refine x_sub [2, 3, 4, 1, 0] (lv2 := [(0, .ref x), (1, .int x_1), (2, .int x_2), (3, .int (1 : Int32)), (4, .int (1 : Int32))]) rfl ?_
  obtain ⟨m, hQ⟩ := hQ
  exact jt_L_breaksFit_84 hd m x_1 x_2 (1 : Int32) (1 : Int32) _ hO hQ
def jp_L_breaksFit_70 (A : AB) (K : Int32 → Prop) (x_1 : Int32) (x_2 : Int32) : Prop := ((¬ x_1 = (1 : Int32) → jp_L_breaksFit_79 A K x_1 x_2) ∧ (x_1 = (1 : Int32) → jp_L_breaksFit_75 A K x_1 x_2))
set_option maxHeartbeats 4000000 in
theorem jt_L_breaksFit_70 {G : GX} {l : Launch} {d x : Nat} {A : AB} {K : Int32 → Prop} (hd : 4 ≤ d) (x_1 : Int32) (x_2 : Int32) (w : HW) (hO : OW w x A) (hQ : jp_L_breaksFit_70 A K x_1 x_2) : X G l m_L_breaksFit d 0 0 0 0 70 [(0, .ref x), (1, .int x_1), (2, .int x_2)] [] w (fun r9 w2 => ∃ (r1 : Int32), r9 = some (.int r1) ∧ OW w2 x A ∧ K r1) := by
  refine x_iload_n 1 d_L_breaksFit_70 rfl rfl ?_
  refine x_iconst (v := (1 : Int32)) d_L_breaksFit_71 (by decide) ?_
  refine x_icmp_ne (tgt := 79) d_L_breaksFit_72 (by decide) (fun c_72_36 => ?_) (fun c_72_36 => ?_)
  · have hQ := hQ.1 c_72_36
    refine x_sub [0, 1, 2] (lv2 := [(0, .ref x), (1, .int x_1), (2, .int x_2)]) rfl ?_
    exact jt_L_breaksFit_79 hd x_1 x_2 _ hO hQ
  · have hQ := hQ.2 c_72_36
    refine x_sub [0, 1, 2] (lv2 := [(0, .ref x), (1, .int x_1), (2, .int x_2)]) rfl ?_
    exact jt_L_breaksFit_75 hd x_1 x_2 _ hO hQ
def wp_L_breaksFit (A : AB) (K : Int32 → Prop) : Prop := ∀ x1 : Int32, x1 = (qr_count A (5 : Int32)) → ∀ x2 : Int32, x2 = (qr_count A (14 : Int32)) → ((x1 < (1 : Int32) → jp_L_breaksFit_79 A K x1 x2) ∧ (¬ x1 < (1 : Int32) → ((¬ (qr_brk A (0 : Int32) (0 : Int32)) = (0 : Int32) → jp_L_breaksFit_79 A K x1 x2) ∧ ((qr_brk A (0 : Int32) (0 : Int32)) = (0 : Int32) → ((¬ (qr_brk A (0 : Int32) (1 : Int32)) = (0 : Int32) → jp_L_breaksFit_79 A K x1 x2) ∧ ((qr_brk A (0 : Int32) (1 : Int32)) = (0 : Int32) → ((¬ (qr_brk A (0 : Int32) (2 : Int32)) = (-2000000004 : Int32) → jp_L_breaksFit_79 A K x1 x2) ∧ ((qr_brk A (0 : Int32) (2 : Int32)) = (-2000000004 : Int32) → ((¬ (qr_brk A x1 (0 : Int32)) = (-2000000004 : Int32) → jp_L_breaksFit_79 A K x1 x2) ∧ ((qr_brk A x1 (0 : Int32)) = (-2000000004 : Int32) → ((x2 = (0 : Int32) → jp_L_breaksFit_70 A K x1 x2) ∧ (¬ x2 = (0 : Int32) → (((0 : Int32) < (qr_count A (2 : Int32)) → jp_L_breaksFit_75 A K x1 x2) ∧ (¬ (0 : Int32) < (qr_count A (2 : Int32)) → jp_L_breaksFit_70 A K x1 x2))))))))))))))
set_option maxHeartbeats 4000000 in
theorem sp_L_breaksFit {G : GX} {l : Launch} {d x : Nat} {w : HW} {A : AB} {K : Int32 → Prop} (hd : 4 ≤ d) (hO : OW w x A) (hQ : wp_L_breaksFit A K) : Sp G l m_L_breaksFit d 0 0 [.ref x] w (fun r9 w2 => ∃ (r1 : Int32), r9 = some (.int r1) ∧ OW w2 x A ∧ K r1) := by
  refine Sp.ofX k_L_breaksFit.1.1 (Nat.le_of_ble_eq_true rfl) ?_
  refine X.lv (lv2 := [(0, .ref x)]) rfl ?_
  refine x_aload_n 0 d_L_breaksFit_0 rfl rfl ?_
  refine x_iconst (v := (5 : Int32)) d_L_breaksFit_1 (by decide) ?_
  refine x_invV (rest := []) (d' := d - 1) (mc' := 0) (ms' := 0) [.int (5 : Int32)] k_X9_count lk_L_21 (OWx hO) rfl rfl rfl (Nat.le_of_ble_eq_true rfl) (by omega) (Nat.le_of_ble_eq_true rfl) (Nat.le_of_ble_eq_true rfl) d_L_breaksFit_2 ((sw_count (d := d - 1) (by omega) hO (h6 := by decide)).mono (fun r w2 hr => ?_))
  obtain ⟨rfl, hO⟩ := hr
  refine x_topi (fun x1 e_x1 => ?_)
  have hQ := hQ x1 e_x1
  refine x_istore_n (lv2 := [(1, .int x1), (0, .ref x)]) d_L_breaksFit_5 rfl (by decide) rfl ?_
  refine x_aload_n 1 d_L_breaksFit_6 rfl rfl ?_
  refine x_bipush (v := (14 : Int32)) d_L_breaksFit_7 (by decide) ?_
  refine x_invV (rest := []) (d' := d - 1) (mc' := 0) (ms' := 0) [.int (14 : Int32)] k_X9_count lk_L_21 (OWx hO) rfl rfl rfl (Nat.le_of_ble_eq_true rfl) (by omega) (Nat.le_of_ble_eq_true rfl) (Nat.le_of_ble_eq_true rfl) d_L_breaksFit_9 ((sw_count (d := d - 1) (by omega) hO (h6 := by decide)).mono (fun r w2 hr => ?_))
  obtain ⟨rfl, hO⟩ := hr
  refine x_topi (fun x2 e_x2 => ?_)
  have hQ := hQ x2 e_x2
  refine x_istore_n (lv2 := [(2, .int x2), (1, .int x1), (0, .ref x)]) d_L_breaksFit_12 rfl (by decide) rfl ?_
  refine x_iload_n 1 d_L_breaksFit_13 rfl rfl ?_
  refine x_iconst (v := (1 : Int32)) d_L_breaksFit_14 (by decide) ?_
  refine x_icmp_lt (tgt := 79) d_L_breaksFit_15 (by decide) (fun c_15_3 => ?_) (fun c_15_3 => ?_)
  · have hQ := hQ.1 c_15_3
    refine x_sub [2, 1, 0] (lv2 := [(0, .ref x), (1, .int x1), (2, .int x2)]) rfl ?_
    exact jt_L_breaksFit_79 hd x1 x2 _ hO hQ
  · have hQ := hQ.2 c_15_3
    refine x_aload_n 2 d_L_breaksFit_18 rfl rfl ?_
    refine x_iconst (v := (0 : Int32)) d_L_breaksFit_19 (by decide) ?_
    refine x_iconst (v := (0 : Int32)) d_L_breaksFit_20 (by decide) ?_
    refine x_invV (rest := []) (d' := d - 1) (mc' := 0) (ms' := 0) [.int (0 : Int32), .int (0 : Int32)] k_X9_breakAt lk_L_27 (OWx hO) rfl rfl rfl (Nat.le_of_ble_eq_true rfl) (by omega) (Nat.le_of_ble_eq_true rfl) (Nat.le_of_ble_eq_true rfl) d_L_breaksFit_21 ((sw_breakAt (d := d - 1) (by omega) hO).mono (fun r w2 hr => ?_))
    obtain ⟨rfl, hO⟩ := hr
    refine x_if_ne (tgt := 79) d_L_breaksFit_24 (by decide) (fun c_24_31 => ?_) (fun c_24_31 => ?_)
    · have hQ := hQ.1 c_24_31
      refine x_sub [2, 1, 0] (lv2 := [(0, .ref x), (1, .int x1), (2, .int x2)]) rfl ?_
      exact jt_L_breaksFit_79 hd x1 x2 _ hO hQ
    · have hQ := hQ.2 c_24_31
      refine x_aload_n 2 d_L_breaksFit_27 rfl rfl ?_
      refine x_iconst (v := (0 : Int32)) d_L_breaksFit_28 (by decide) ?_
      refine x_iconst (v := (1 : Int32)) d_L_breaksFit_29 (by decide) ?_
      refine x_invV (rest := []) (d' := d - 1) (mc' := 0) (ms' := 0) [.int (0 : Int32), .int (1 : Int32)] k_X9_breakAt lk_L_27 (OWx hO) rfl rfl rfl (Nat.le_of_ble_eq_true rfl) (by omega) (Nat.le_of_ble_eq_true rfl) (Nat.le_of_ble_eq_true rfl) d_L_breaksFit_30 ((sw_breakAt (d := d - 1) (by omega) hO).mono (fun r w2 hr => ?_))
      obtain ⟨rfl, hO⟩ := hr
      refine x_if_ne (tgt := 79) d_L_breaksFit_33 (by decide) (fun c_33_32 => ?_) (fun c_33_32 => ?_)
      · have hQ := hQ.1 c_33_32
        refine x_sub [2, 1, 0] (lv2 := [(0, .ref x), (1, .int x1), (2, .int x2)]) rfl ?_
        exact jt_L_breaksFit_79 hd x1 x2 _ hO hQ
      · have hQ := hQ.2 c_33_32
        refine x_aload_n 2 d_L_breaksFit_36 rfl rfl ?_
        refine x_iconst (v := (0 : Int32)) d_L_breaksFit_37 (by decide) ?_
        refine x_iconst (v := (2 : Int32)) d_L_breaksFit_38 (by decide) ?_
        refine x_invV (rest := []) (d' := d - 1) (mc' := 0) (ms' := 0) [.int (0 : Int32), .int (2 : Int32)] k_X9_breakAt lk_L_27 (OWx hO) rfl rfl rfl (Nat.le_of_ble_eq_true rfl) (by omega) (Nat.le_of_ble_eq_true rfl) (Nat.le_of_ble_eq_true rfl) d_L_breaksFit_39 ((sw_breakAt (d := d - 1) (by omega) hO).mono (fun r w2 hr => ?_))
        obtain ⟨rfl, hO⟩ := hr
        refine x_ldc (v := (-2000000004 : Int32)) kc_L_16 d_L_breaksFit_42 ?_
        refine x_icmp_ne (tgt := 79) d_L_breaksFit_44 (by decide) (fun c_44_33 => ?_) (fun c_44_33 => ?_)
        · have hQ := hQ.1 c_44_33
          refine x_sub [2, 1, 0] (lv2 := [(0, .ref x), (1, .int x1), (2, .int x2)]) rfl ?_
          exact jt_L_breaksFit_79 hd x1 x2 _ hO hQ
        · have hQ := hQ.2 c_44_33
          refine x_aload_n 2 d_L_breaksFit_47 rfl rfl ?_
          refine x_iload_n 1 d_L_breaksFit_48 rfl rfl ?_
          refine x_iconst (v := (0 : Int32)) d_L_breaksFit_49 (by decide) ?_
          refine x_invV (rest := []) (d' := d - 1) (mc' := 0) (ms' := 0) [.int x1, .int (0 : Int32)] k_X9_breakAt lk_L_27 (OWx hO) rfl rfl rfl (Nat.le_of_ble_eq_true rfl) (by omega) (Nat.le_of_ble_eq_true rfl) (Nat.le_of_ble_eq_true rfl) d_L_breaksFit_50 ((sw_breakAt (d := d - 1) (by omega) hO).mono (fun r w2 hr => ?_))
          obtain ⟨rfl, hO⟩ := hr
          refine x_ldc (v := (-2000000004 : Int32)) kc_L_16 d_L_breaksFit_53 ?_
          refine x_icmp_ne (tgt := 79) d_L_breaksFit_55 (by decide) (fun c_55_34 => ?_) (fun c_55_34 => ?_)
          · have hQ := hQ.1 c_55_34
            refine x_sub [2, 1, 0] (lv2 := [(0, .ref x), (1, .int x1), (2, .int x2)]) rfl ?_
            exact jt_L_breaksFit_79 hd x1 x2 _ hO hQ
          · have hQ := hQ.2 c_55_34
            refine x_iload_n 0 d_L_breaksFit_58 rfl rfl ?_
            refine x_if_eq (tgt := 70) d_L_breaksFit_59 (by decide) (fun c_59_35 => ?_) (fun c_59_35 => ?_)
            · have hQ := hQ.1 c_59_35
              refine x_sub [2, 1, 0] (lv2 := [(0, .ref x), (1, .int x1), (2, .int x2)]) rfl ?_
              exact jt_L_breaksFit_70 hd x1 x2 _ hO hQ
            · have hQ := hQ.2 c_59_35
              refine x_aload_n 2 d_L_breaksFit_62 rfl rfl ?_
              refine x_iconst (v := (2 : Int32)) d_L_breaksFit_63 (by decide) ?_
              refine x_invV (rest := []) (d' := d - 1) (mc' := 0) (ms' := 0) [.int (2 : Int32)] k_X9_count lk_L_21 (OWx hO) rfl rfl rfl (Nat.le_of_ble_eq_true rfl) (by omega) (Nat.le_of_ble_eq_true rfl) (Nat.le_of_ble_eq_true rfl) d_L_breaksFit_64 ((sw_count (d := d - 1) (by omega) hO (h6 := by decide)).mono (fun r w2 hr => ?_))
              obtain ⟨rfl, hO⟩ := hr
              refine x_if_gt (tgt := 75) d_L_breaksFit_67 (by decide) (fun c_67_37 => ?_) (fun c_67_37 => ?_)
              · have hQ := hQ.1 c_67_37
                refine x_sub [2, 1, 0] (lv2 := [(0, .ref x), (1, .int x1), (2, .int x2)]) rfl ?_
                exact jt_L_breaksFit_75 hd x1 x2 _ hO hQ
              · have hQ := hQ.2 c_67_37
                refine x_sub [2, 1, 0] (lv2 := [(0, .ref x), (1, .int x1), (2, .int x2)]) rfl ?_
                exact jt_L_breaksFit_70 hd x1 x2 _ hO hQ
def lp_L_isBreak_2 (A : AB) (a0 : Int32) (K : Int32 → Prop) : Nat → Int32 → Prop
  | 0, _ => False
  | n + 1, x_2 => (((qr_count A (5 : Int32)) ≤ x_2 → K (0 : Int32)) ∧ (¬ (qr_count A (5 : Int32)) ≤ x_2 → ((¬ (qr_brk A x_2 (0 : Int32)) = a0 → ∀ x3 : Int32, x3 = x_2 + (1 : Int32) → lp_L_isBreak_2 A a0 K n x3) ∧ ((qr_brk A x_2 (0 : Int32)) = a0 → K (1 : Int32)))))
set_option maxHeartbeats 4000000 in
theorem jt_L_isBreak_2 {G : GX} {l : Launch} {d x : Nat} {A : AB} {a0 : Int32} {K : Int32 → Prop} (hd : 4 ≤ d) : ∀ (n : Nat) (x_2 : Int32) (w : HW), OW w x A → lp_L_isBreak_2 A a0 K n x_2 → X G l m_L_isBreak d 0 0 0 0 2 [(0, .ref x), (1, .int a0), (2, .int x_2)] [] w (fun r9 w2 => ∃ (r1 : Int32), r9 = some (.int r1) ∧ OW w2 x A ∧ K r1) := by
  intro n
  induction n with
  | zero =>
    intro x_2 w hO hQ
    exact hQ.elim
  | succ n ih =>
    intro x_2 w hO hQ
    refine x_iload_n 2 d_L_isBreak_2 rfl rfl ?_
    refine x_aload_n 0 d_L_isBreak_3 rfl rfl ?_
    refine x_iconst (v := (5 : Int32)) d_L_isBreak_4 (by decide) ?_
    refine x_invV (rest := [.int x_2]) (d' := d - 1) (mc' := 0) (ms' := 0) [.int (5 : Int32)] k_X9_count lk_L_21 (OWx hO) rfl rfl rfl (Nat.le_of_ble_eq_true rfl) (by omega) (Nat.le_of_ble_eq_true rfl) (Nat.le_of_ble_eq_true rfl) d_L_isBreak_5 ((sw_count (d := d - 1) (by omega) hO (h6 := by decide)).mono (fun r w2 hr => ?_))
    obtain ⟨rfl, hO⟩ := hr
    refine x_icmp_ge (tgt := 29) d_L_isBreak_8 (by decide) (fun c_8_1 => ?_) (fun c_8_1 => ?_)
    · have hQ := hQ.1 c_8_1
      refine x_iconst (v := (0 : Int32)) d_L_isBreak_29 (by decide) ?_
      exact x_iret (retB d_L_isBreak_30 rfl rfl) ⟨_, rfl, hO, hQ⟩
    · have hQ := hQ.2 c_8_1
      refine x_aload_n 0 d_L_isBreak_11 rfl rfl ?_
      refine x_iload_n 2 d_L_isBreak_12 rfl rfl ?_
      refine x_iconst (v := (0 : Int32)) d_L_isBreak_13 (by decide) ?_
      refine x_invV (rest := []) (d' := d - 1) (mc' := 0) (ms' := 0) [.int x_2, .int (0 : Int32)] k_X9_breakAt lk_L_27 (OWx hO) rfl rfl rfl (Nat.le_of_ble_eq_true rfl) (by omega) (Nat.le_of_ble_eq_true rfl) (Nat.le_of_ble_eq_true rfl) d_L_isBreak_14 ((sw_breakAt (d := d - 1) (by omega) hO).mono (fun r w2 hr => ?_))
      obtain ⟨rfl, hO⟩ := hr
      refine x_iload_n 1 d_L_isBreak_17 rfl rfl ?_
      refine x_icmp_ne (tgt := 23) d_L_isBreak_18 (by decide) (fun c_18_2 => ?_) (fun c_18_2 => ?_)
      · have hQ := hQ.1 c_18_2
        obtain ⟨x3, e_x3⟩ : ∃ z : Int32, z = x_2 + (1 : Int32) := ⟨_, rfl⟩
        have hQ := hQ x3 e_x3
        refine x_iinc (v := x3) (lv2 := [(2, .int x3), (0, .ref x), (1, .int a0)]) 2 d_L_isBreak_23 rfl (by rw [e_x3]; rfl) (by decide) rfl ?_
        refine x_goto (tgt := 2) d_L_isBreak_26 (by decide) ?_
        refine x_sub [1, 2, 0] (lv2 := [(0, .ref x), (1, .int a0), (2, .int x3)]) rfl ?_
        exact ih x3 _ hO hQ
      · have hQ := hQ.2 c_18_2
        refine x_iconst (v := (1 : Int32)) d_L_isBreak_21 (by decide) ?_
        exact x_iret (retB d_L_isBreak_22 rfl rfl) ⟨_, rfl, hO, hQ⟩
def wp_L_isBreak (A : AB) (a0 : Int32) (K : Int32 → Prop) : Prop := ∃ m : Nat, lp_L_isBreak_2 A a0 K m (0 : Int32)
set_option maxHeartbeats 4000000 in
theorem sp_L_isBreak {G : GX} {l : Launch} {d x : Nat} {w : HW} {A : AB} {a0 : Int32} {K : Int32 → Prop} (hd : 4 ≤ d) (hO : OW w x A) (hQ : wp_L_isBreak A a0 K) : Sp G l m_L_isBreak d 0 0 [.ref x, .int a0] w (fun r9 w2 => ∃ (r1 : Int32), r9 = some (.int r1) ∧ OW w2 x A ∧ K r1) := by
  refine Sp.ofX k_L_isBreak.1.1 (Nat.le_of_ble_eq_true rfl) ?_
  refine X.lv (lv2 := [(0, .ref x), (1, .int a0)]) rfl ?_
  refine x_iconst (v := (0 : Int32)) d_L_isBreak_0 (by decide) ?_
  refine x_istore_n (lv2 := [(2, .int (0 : Int32)), (0, .ref x), (1, .int a0)]) d_L_isBreak_1 rfl (by decide) rfl ?_
  refine x_sub [1, 2, 0] (lv2 := [(0, .ref x), (1, .int a0), (2, .int (0 : Int32))]) rfl ?_
  obtain ⟨m, hQ⟩ := hQ
  exact jt_L_isBreak_2 hd m (0 : Int32) _ hO hQ
def jp_L_stepsFit_304 (A : AB) (K : Int32 → Prop) (x_2 : Int32) (x_3 : Int32) : Prop := ((x_3 = (0 : Int32) → K (0 : Int32)) ∧ (¬ x_3 = (0 : Int32) → ((¬ x_2 = (qr_count A (3 : Int32)) → K (0 : Int32)) ∧ (x_2 = (qr_count A (3 : Int32)) → K (1 : Int32)))))
set_option maxHeartbeats 4000000 in
theorem jt_L_stepsFit_304 {G : GX} {l : Launch} {d x : Nat} {A : AB} {K : Int32 → Prop} (hd : 7 ≤ d) (x_2 : Int32) (x_3 : Int32) (w : HW) (hO : OW w x A) (hQ : jp_L_stepsFit_304 A K x_2 x_3) : X G l m_L_stepsFit d 0 0 0 0 304 [(0, .ref x), (2, .int x_2), (3, .int x_3)] [] w (fun r9 w2 => ∃ (r1 : Int32), r9 = some (.int r1) ∧ OW w2 x A ∧ K r1) := by
  refine x_iload_n 2 d_L_stepsFit_304 rfl rfl ?_
  refine x_if_eq (tgt := 321) d_L_stepsFit_305 (by decide) (fun c_305_4 => ?_) (fun c_305_4 => ?_)
  · have hQ := hQ.1 c_305_4
    refine x_iconst (v := (0 : Int32)) d_L_stepsFit_321 (by decide) ?_
    exact x_iret (retB d_L_stepsFit_322 rfl rfl) ⟨_, rfl, hO, hQ⟩
  · have hQ := hQ.2 c_305_4
    refine x_iload_n 1 d_L_stepsFit_308 rfl rfl ?_
    refine x_aload_n 0 d_L_stepsFit_309 rfl rfl ?_
    refine x_iconst (v := (3 : Int32)) d_L_stepsFit_310 (by decide) ?_
    refine x_invV (rest := [.int x_2]) (d' := d - 1) (mc' := 0) (ms' := 0) [.int (3 : Int32)] k_X9_count lk_L_21 (OWx hO) rfl rfl rfl (Nat.le_of_ble_eq_true rfl) (by omega) (Nat.le_of_ble_eq_true rfl) (Nat.le_of_ble_eq_true rfl) d_L_stepsFit_311 ((sw_count (d := d - 1) (by omega) hO (h6 := by decide)).mono (fun r w2 hr => ?_))
    obtain ⟨rfl, hO⟩ := hr
    refine x_icmp_ne (tgt := 321) d_L_stepsFit_314 (by decide) (fun c_314_5 => ?_) (fun c_314_5 => ?_)
    · have hQ := hQ.1 c_314_5
      refine x_iconst (v := (0 : Int32)) d_L_stepsFit_321 (by decide) ?_
      exact x_iret (retB d_L_stepsFit_322 rfl rfl) ⟨_, rfl, hO, hQ⟩
    · have hQ := hQ.2 c_314_5
      refine x_iconst (v := (1 : Int32)) d_L_stepsFit_317 (by decide) ?_
      refine x_goto (tgt := 322) d_L_stepsFit_318 (by decide) ?_
      exact x_iret (retB d_L_stepsFit_322 rfl rfl) ⟨_, rfl, hO, hQ⟩
def jp_L_stepsFit_293 (A : AB) (K : Int32 → Prop) (k_28 : Int32 → Int32 → Int32 → Int32 → Prop) (x_1 : Int32) (x_2 : Int32) (x_3 : Int32) (x_4 : Int32) (x_5 : Int32) : Prop := ∀ x15 : Int32, x15 = x_2 + x_5 → ∀ x16 : Int32, x16 = x_4 + (1 : Int32) → k_28 x_1 x15 x_3 x16
set_option maxHeartbeats 4000000 in
theorem jt_L_stepsFit_293 {G : GX} {l : Launch} {d x : Nat} {A : AB} {K : Int32 → Prop} {k_28 : Int32 → Int32 → Int32 → Int32 → Prop} (hd : 7 ≤ d) (hk_28 : ∀ (x_1 : Int32) (x_2 : Int32) (x_3 : Int32) (x_4 : Int32) (w : HW), OW w x A → k_28 x_1 x_2 x_3 x_4 → X G l m_L_stepsFit d 0 0 0 0 28 [(0, .ref x), (1, .int x_1), (2, .int x_2), (3, .int x_3), (4, .int x_4)] [] w (fun r9 w2 => ∃ (r1 : Int32), r9 = some (.int r1) ∧ OW w2 x A ∧ K r1)) (x_1 : Int32) (x_2 : Int32) (x_3 : Int32) (x_4 : Int32) (x_5 : Int32) (w : HW) (hO : OW w x A) (hQ : jp_L_stepsFit_293 A K k_28 x_1 x_2 x_3 x_4 x_5) : X G l m_L_stepsFit d 0 0 0 0 293 [(0, .ref x), (1, .int x_1), (2, .int x_2), (3, .int x_3), (4, .int x_4), (5, .int x_5)] [] w (fun r9 w2 => ∃ (r1 : Int32), r9 = some (.int r1) ∧ OW w2 x A ∧ K r1) := by
  refine x_iload_n 2 d_L_stepsFit_293 rfl rfl ?_
  refine x_iload 5 d_L_stepsFit_294 rfl ?_
  refine x_iadd d_L_stepsFit_296 ?_
  refine x_topi (fun x15 e_x15 => ?_)
  have hQ := hQ x15 e_x15
  refine x_istore_n (lv2 := [(2, .int x15), (0, .ref x), (1, .int x_1), (3, .int x_3), (4, .int x_4), (5, .int x_5)]) d_L_stepsFit_297 rfl (by decide) rfl ?_
  obtain ⟨x16, e_x16⟩ : ∃ z : Int32, z = x_4 + (1 : Int32) := ⟨_, rfl⟩
  have hQ := hQ x16 e_x16
  refine x_iinc (v := x16) (lv2 := [(4, .int x16), (2, .int x15), (0, .ref x), (1, .int x_1), (3, .int x_3), (5, .int x_5)]) 4 d_L_stepsFit_298 rfl (by rw [e_x16]; rfl) (by decide) rfl ?_
  refine x_goto (tgt := 28) d_L_stepsFit_301 (by decide) ?_
  refine x_sub [2, 3, 1, 4, 0] (lv2 := [(0, .ref x), (1, .int x_1), (2, .int x15), (3, .int x_3), (4, .int x16)]) rfl ?_
  exact hk_28 x_1 x15 x_3 x16 _ hO hQ
def jp_L_stepsFit_278 (A : AB) (K : Int32 → Prop) (k_28 : Int32 → Int32 → Int32 → Int32 → Prop) (k_251 : Int32 → Int32 → Int32 → Int32 → Int32 → Int32 → Prop) (x_1 : Int32) (x_2 : Int32) (x_4 : Int32) (x_5 : Int32) (x_8 : Int32) (t_0 : Int32) : Prop := ∀ x20 : Int32, x20 = x_8 + ((1 : Int32) + (x_5 / (5 : Int32))) → k_251 x_1 x_2 t_0 x_4 x_5 x20
set_option maxHeartbeats 4000000 in
theorem jt_L_stepsFit_278 {G : GX} {l : Launch} {d x : Nat} {A : AB} {K : Int32 → Prop} {k_28 : Int32 → Int32 → Int32 → Int32 → Prop} {k_251 : Int32 → Int32 → Int32 → Int32 → Int32 → Int32 → Prop} (hd : 7 ≤ d) (hk_28 : ∀ (x_1 : Int32) (x_2 : Int32) (x_3 : Int32) (x_4 : Int32) (w : HW), OW w x A → k_28 x_1 x_2 x_3 x_4 → X G l m_L_stepsFit d 0 0 0 0 28 [(0, .ref x), (1, .int x_1), (2, .int x_2), (3, .int x_3), (4, .int x_4)] [] w (fun r9 w2 => ∃ (r1 : Int32), r9 = some (.int r1) ∧ OW w2 x A ∧ K r1)) (hk_251 : ∀ (x_1 : Int32) (x_2 : Int32) (x_3 : Int32) (x_4 : Int32) (x_5 : Int32) (x_8 : Int32) (w : HW), OW w x A → k_251 x_1 x_2 x_3 x_4 x_5 x_8 → X G l m_L_stepsFit d 0 0 0 0 251 [(0, .ref x), (1, .int x_1), (2, .int x_2), (3, .int x_3), (4, .int x_4), (5, .int x_5), (8, .int x_8)] [] w (fun r9 w2 => ∃ (r1 : Int32), r9 = some (.int r1) ∧ OW w2 x A ∧ K r1)) (x_1 : Int32) (x_2 : Int32) (x_4 : Int32) (x_5 : Int32) (x_8 : Int32) (t_0 : Int32) (w : HW) (hO : OW w x A) (hQ : jp_L_stepsFit_278 A K k_28 k_251 x_1 x_2 x_4 x_5 x_8 t_0) : X G l m_L_stepsFit d 0 0 0 0 278 [(0, .ref x), (1, .int x_1), (2, .int x_2), (4, .int x_4), (5, .int x_5), (8, .int x_8)] [.int t_0] w (fun r9 w2 => ∃ (r1 : Int32), r9 = some (.int r1) ∧ OW w2 x A ∧ K r1) := by
  refine x_istore_n (lv2 := [(3, .int t_0), (0, .ref x), (1, .int x_1), (2, .int x_2), (4, .int x_4), (5, .int x_5), (8, .int x_8)]) d_L_stepsFit_278 rfl (by decide) rfl ?_
  refine x_iload 6 d_L_stepsFit_279 rfl ?_
  refine x_iconst (v := (1 : Int32)) d_L_stepsFit_281 (by decide) ?_
  refine x_iload 5 d_L_stepsFit_282 rfl ?_
  refine x_iconst (v := (5 : Int32)) d_L_stepsFit_284 (by decide) ?_
  refine x_idiv d_L_stepsFit_285 (by decide) ?_
  refine x_iadd d_L_stepsFit_286 ?_
  refine x_iadd d_L_stepsFit_287 ?_
  refine x_topi (fun x20 e_x20 => ?_)
  have hQ := hQ x20 e_x20
  refine x_istore (lv2 := [(8, .int x20), (3, .int t_0), (0, .ref x), (1, .int x_1), (2, .int x_2), (4, .int x_4), (5, .int x_5)]) d_L_stepsFit_288 (by decide) rfl ?_
  refine x_goto (tgt := 251) d_L_stepsFit_290 (by decide) ?_
  refine x_sub [2, 3, 4, 1, 5, 6, 0] (lv2 := [(0, .ref x), (1, .int x_1), (2, .int x_2), (3, .int t_0), (4, .int x_4), (5, .int x_5), (8, .int x20)]) rfl ?_
  exact hk_251 x_1 x_2 t_0 x_4 x_5 x20 _ hO hQ
def lp_L_stepsFit_251 (A : AB) (K : Int32 → Prop) (k_28 : Int32 → Int32 → Int32 → Int32 → Prop) : Nat → Int32 → Int32 → Int32 → Int32 → Int32 → Int32 → Prop
  | 0, _, _, _, _, _, _ => False
  | n + 1, x_1, x_2, x_3, x_4, x_5, x_8 => (((x_2 + x_5) ≤ x_8 → jp_L_stepsFit_293 A K k_28 x_1 x_2 x_3 x_4 x_5) ∧ (¬ (x_2 + x_5) ≤ x_8 → ((x_3 = (0 : Int32) → jp_L_stepsFit_293 A K k_28 x_1 x_2 x_3 x_4 x_5) ∧ (¬ x_3 = (0 : Int32) → wp_L_isBreak A x_8 (fun (r18 : Int32) => ((¬ r18 = (0 : Int32) → jp_L_stepsFit_278 A K k_28 (fun v0 v1 v2 v3 v4 v5 => lp_L_stepsFit_251 A K k_28 n v0 v1 v2 v3 v4 v5) x_1 x_2 x_4 x_5 x_8 (0 : Int32)) ∧ (r18 = (0 : Int32) → jp_L_stepsFit_278 A K k_28 (fun v0 v1 v2 v3 v4 v5 => lp_L_stepsFit_251 A K k_28 n v0 v1 v2 v3 v4 v5) x_1 x_2 x_4 x_5 x_8 (1 : Int32))))))))
set_option maxHeartbeats 4000000 in
theorem jt_L_stepsFit_251 {G : GX} {l : Launch} {d x : Nat} {A : AB} {K : Int32 → Prop} {k_28 : Int32 → Int32 → Int32 → Int32 → Prop} (hd : 7 ≤ d) (hk_28 : ∀ (x_1 : Int32) (x_2 : Int32) (x_3 : Int32) (x_4 : Int32) (w : HW), OW w x A → k_28 x_1 x_2 x_3 x_4 → X G l m_L_stepsFit d 0 0 0 0 28 [(0, .ref x), (1, .int x_1), (2, .int x_2), (3, .int x_3), (4, .int x_4)] [] w (fun r9 w2 => ∃ (r1 : Int32), r9 = some (.int r1) ∧ OW w2 x A ∧ K r1)) : ∀ (n : Nat) (x_1 : Int32) (x_2 : Int32) (x_3 : Int32) (x_4 : Int32) (x_5 : Int32) (x_8 : Int32) (w : HW), OW w x A → lp_L_stepsFit_251 A K k_28 n x_1 x_2 x_3 x_4 x_5 x_8 → X G l m_L_stepsFit d 0 0 0 0 251 [(0, .ref x), (1, .int x_1), (2, .int x_2), (3, .int x_3), (4, .int x_4), (5, .int x_5), (8, .int x_8)] [] w (fun r9 w2 => ∃ (r1 : Int32), r9 = some (.int r1) ∧ OW w2 x A ∧ K r1) := by
  intro n
  induction n with
  | zero =>
    intro x_1 x_2 x_3 x_4 x_5 x_8 w hO hQ
    exact hQ.elim
  | succ n ih =>
    intro x_1 x_2 x_3 x_4 x_5 x_8 w hO hQ
    refine x_iload 6 d_L_stepsFit_251 rfl ?_
    refine x_iload_n 2 d_L_stepsFit_253 rfl rfl ?_
    refine x_iload 5 d_L_stepsFit_254 rfl ?_
    refine x_iadd d_L_stepsFit_256 ?_
    refine x_icmp_ge (tgt := 293) d_L_stepsFit_257 (by decide) (fun c_257_14 => ?_) (fun c_257_14 => ?_)
    · have hQ := hQ.1 c_257_14
      refine x_sub [0, 1, 2, 3, 4, 5] (lv2 := [(0, .ref x), (1, .int x_1), (2, .int x_2), (3, .int x_3), (4, .int x_4), (5, .int x_5)]) rfl ?_
      exact jt_L_stepsFit_293 hd hk_28 x_1 x_2 x_3 x_4 x_5 _ hO hQ
    · have hQ := hQ.2 c_257_14
      refine x_iload_n 3 d_L_stepsFit_260 rfl rfl ?_
      refine x_if_eq (tgt := 293) d_L_stepsFit_261 (by decide) (fun c_261_17 => ?_) (fun c_261_17 => ?_)
      · have hQ := hQ.1 c_261_17
        refine x_sub [0, 1, 2, 3, 4, 5] (lv2 := [(0, .ref x), (1, .int x_1), (2, .int x_2), (3, .int x_3), (4, .int x_4), (5, .int x_5)]) rfl ?_
        exact jt_L_stepsFit_293 hd hk_28 x_1 x_2 x_3 x_4 x_5 _ hO hQ
      · have hQ := hQ.2 c_261_17
        refine x_aload_n 0 d_L_stepsFit_264 rfl rfl ?_
        refine x_iload 6 d_L_stepsFit_265 rfl ?_
        refine x_invS (rest := []) (d' := d - 1) (mc' := 0) (ms' := 0) [.ref x, .int x_8] k_L_isBreak lk_L_42 rfl rfl (Nat.le_of_ble_eq_true rfl) (by omega) (Nat.le_of_ble_eq_true rfl) (Nat.le_of_ble_eq_true rfl) d_L_stepsFit_267 ((sp_L_isBreak (d := d - 1) (by omega) hO hQ).mono (fun r w2 hr => ?_))
        obtain ⟨r18, rfl, hO, hQ⟩ := hr
        refine x_if_ne (tgt := 277) d_L_stepsFit_270 (by decide) (fun c_270_19 => ?_) (fun c_270_19 => ?_)
        · have hQ := hQ.1 c_270_19
          refine x_iconst (v := (0 : Int32)) d_L_stepsFit_277 (by decide) ?_
          refine x_sub [0, 1, 2, 4, 5, 6] (lv2 := [(0, .ref x), (1, .int x_1), (2, .int x_2), (4, .int x_4), (5, .int x_5), (8, .int x_8)]) rfl ?_
          exact jt_L_stepsFit_278 hd hk_28 ih x_1 x_2 x_4 x_5 x_8 (0 : Int32) _ hO hQ
        · have hQ := hQ.2 c_270_19
          refine x_iconst (v := (1 : Int32)) d_L_stepsFit_273 (by decide) ?_
          refine x_goto (tgt := 278) d_L_stepsFit_274 (by decide) ?_
          refine x_sub [0, 1, 2, 4, 5, 6] (lv2 := [(0, .ref x), (1, .int x_1), (2, .int x_2), (4, .int x_4), (5, .int x_5), (8, .int x_8)]) rfl ?_
          exact jt_L_stepsFit_278 hd hk_28 ih x_1 x_2 x_4 x_5 x_8 (1 : Int32) _ hO hQ
def jp_L_stepsFit_246 (A : AB) (K : Int32 → Prop) (k_28 : Int32 → Int32 → Int32 → Int32 → Prop) (x_1 : Int32) (x_2 : Int32) (x_3 : Int32) (x_4 : Int32) (x_5 : Int32) : Prop := ∀ x13 : Int32, x13 = x_2 + (1 : Int32) → ∃ m : Nat, lp_L_stepsFit_251 A K k_28 m x_1 x_2 x_3 x_4 x_5 x13
set_option maxHeartbeats 4000000 in
theorem jt_L_stepsFit_246 {G : GX} {l : Launch} {d x : Nat} {A : AB} {K : Int32 → Prop} {k_28 : Int32 → Int32 → Int32 → Int32 → Prop} (hd : 7 ≤ d) (hk_28 : ∀ (x_1 : Int32) (x_2 : Int32) (x_3 : Int32) (x_4 : Int32) (w : HW), OW w x A → k_28 x_1 x_2 x_3 x_4 → X G l m_L_stepsFit d 0 0 0 0 28 [(0, .ref x), (1, .int x_1), (2, .int x_2), (3, .int x_3), (4, .int x_4)] [] w (fun r9 w2 => ∃ (r1 : Int32), r9 = some (.int r1) ∧ OW w2 x A ∧ K r1)) (x_1 : Int32) (x_2 : Int32) (x_3 : Int32) (x_4 : Int32) (x_5 : Int32) (w : HW) (hO : OW w x A) (hQ : jp_L_stepsFit_246 A K k_28 x_1 x_2 x_3 x_4 x_5) : X G l m_L_stepsFit d 0 0 0 0 246 [(0, .ref x), (1, .int x_1), (2, .int x_2), (3, .int x_3), (4, .int x_4), (5, .int x_5)] [] w (fun r9 w2 => ∃ (r1 : Int32), r9 = some (.int r1) ∧ OW w2 x A ∧ K r1) := by
  refine x_iload_n 2 d_L_stepsFit_246 rfl rfl ?_
  refine x_iconst (v := (1 : Int32)) d_L_stepsFit_247 (by decide) ?_
  refine x_iadd d_L_stepsFit_248 ?_
  refine x_topi (fun x13 e_x13 => ?_)
  have hQ := hQ x13 e_x13
  refine x_istore (lv2 := [(8, .int x13), (0, .ref x), (1, .int x_1), (2, .int x_2), (3, .int x_3), (4, .int x_4), (5, .int x_5)]) d_L_stepsFit_249 (by decide) rfl ?_
  refine x_sub [1, 2, 3, 4, 5, 6, 0] (lv2 := [(0, .ref x), (1, .int x_1), (2, .int x_2), (3, .int x_3), (4, .int x_4), (5, .int x_5), (8, .int x13)]) rfl ?_
  obtain ⟨m, hQ⟩ := hQ
  exact jt_L_stepsFit_251 hd hk_28 m x_1 x_2 x_3 x_4 x_5 x13 _ hO hQ
def lp_L_stepsFit_204 (A : AB) (K : Int32 → Prop) (k_28 : Int32 → Int32 → Int32 → Int32 → Prop) : Nat → Int32 → Int32 → Int32 → Int32 → Int32 → Int32 → Prop
  | 0, _, _, _, _, _, _ => False
  | n + 1, x_1, x_2, x_3, x_4, x_5, x_8 => (((3 : Int32) ≤ x_8 → jp_L_stepsFit_246 A K k_28 x_1 x_2 x_3 x_4 x_5) ∧ (¬ (3 : Int32) ≤ x_8 → ((x_3 = (0 : Int32) → jp_L_stepsFit_246 A K k_28 x_1 x_2 x_3 x_4 x_5) ∧ (¬ x_3 = (0 : Int32) → ((¬ (qr_right A x_8 x_2) = (qr_step A x_4 ((2 : Int32) + x_8)) → ∀ x23 : Int32, x23 = x_8 + (1 : Int32) → lp_L_stepsFit_204 A K k_28 n x_1 x_2 (0 : Int32) x_4 x_5 x23) ∧ ((qr_right A x_8 x_2) = (qr_step A x_4 ((2 : Int32) + x_8)) → ∀ x24 : Int32, x24 = x_8 + (1 : Int32) → lp_L_stepsFit_204 A K k_28 n x_1 x_2 (1 : Int32) x_4 x_5 x24))))))
set_option maxHeartbeats 4000000 in
theorem jt_L_stepsFit_204 {G : GX} {l : Launch} {d x : Nat} {A : AB} {K : Int32 → Prop} {k_28 : Int32 → Int32 → Int32 → Int32 → Prop} (hd : 7 ≤ d) (hk_28 : ∀ (x_1 : Int32) (x_2 : Int32) (x_3 : Int32) (x_4 : Int32) (w : HW), OW w x A → k_28 x_1 x_2 x_3 x_4 → X G l m_L_stepsFit d 0 0 0 0 28 [(0, .ref x), (1, .int x_1), (2, .int x_2), (3, .int x_3), (4, .int x_4)] [] w (fun r9 w2 => ∃ (r1 : Int32), r9 = some (.int r1) ∧ OW w2 x A ∧ K r1)) : ∀ (n : Nat) (x_1 : Int32) (x_2 : Int32) (x_3 : Int32) (x_4 : Int32) (x_5 : Int32) (x_8 : Int32) (w : HW), OW w x A → lp_L_stepsFit_204 A K k_28 n x_1 x_2 x_3 x_4 x_5 x_8 → X G l m_L_stepsFit d 0 0 0 0 204 [(0, .ref x), (1, .int x_1), (2, .int x_2), (3, .int x_3), (4, .int x_4), (5, .int x_5), (8, .int x_8)] [] w (fun r9 w2 => ∃ (r1 : Int32), r9 = some (.int r1) ∧ OW w2 x A ∧ K r1) := by
  intro n
  induction n with
  | zero =>
    intro x_1 x_2 x_3 x_4 x_5 x_8 w hO hQ
    exact hQ.elim
  | succ n ih =>
    intro x_1 x_2 x_3 x_4 x_5 x_8 w hO hQ
    refine x_iload 6 d_L_stepsFit_204 rfl ?_
    refine x_iconst (v := (3 : Int32)) d_L_stepsFit_206 (by decide) ?_
    refine x_icmp_ge (tgt := 246) d_L_stepsFit_207 (by decide) (fun c_207_12 => ?_) (fun c_207_12 => ?_)
    · have hQ := hQ.1 c_207_12
      refine x_sub [0, 1, 2, 3, 4, 5] (lv2 := [(0, .ref x), (1, .int x_1), (2, .int x_2), (3, .int x_3), (4, .int x_4), (5, .int x_5)]) rfl ?_
      exact jt_L_stepsFit_246 hd hk_28 x_1 x_2 x_3 x_4 x_5 _ hO hQ
    · have hQ := hQ.2 c_207_12
      refine x_iload_n 3 d_L_stepsFit_210 rfl rfl ?_
      refine x_if_eq (tgt := 246) d_L_stepsFit_211 (by decide) (fun c_211_21 => ?_) (fun c_211_21 => ?_)
      · have hQ := hQ.1 c_211_21
        refine x_sub [0, 1, 2, 3, 4, 5] (lv2 := [(0, .ref x), (1, .int x_1), (2, .int x_2), (3, .int x_3), (4, .int x_4), (5, .int x_5)]) rfl ?_
        exact jt_L_stepsFit_246 hd hk_28 x_1 x_2 x_3 x_4 x_5 _ hO hQ
      · have hQ := hQ.2 c_211_21
        refine x_aload_n 0 d_L_stepsFit_214 rfl rfl ?_
        refine x_iload 6 d_L_stepsFit_215 rfl ?_
        refine x_iload_n 2 d_L_stepsFit_217 rfl rfl ?_
        refine x_invV (rest := []) (d' := d - 1) (mc' := 0) (ms' := 0) [.int x_8, .int x_2] k_X9_rightAt lk_L_39 (OWx hO) rfl rfl rfl (Nat.le_of_ble_eq_true rfl) (by omega) (Nat.le_of_ble_eq_true rfl) (Nat.le_of_ble_eq_true rfl) d_L_stepsFit_218 ((sw_rightAt (d := d - 1) (by omega) hO).mono (fun r w2 hr => ?_))
        obtain ⟨rfl, hO⟩ := hr
        refine x_aload_n 0 d_L_stepsFit_221 rfl rfl ?_
        refine x_iload 4 d_L_stepsFit_222 rfl ?_
        refine x_iconst (v := (2 : Int32)) d_L_stepsFit_224 (by decide) ?_
        refine x_iload 6 d_L_stepsFit_225 rfl ?_
        refine x_iadd d_L_stepsFit_227 ?_
        refine x_invV (rest := [.int (qr_right A x_8 x_2)]) (d' := d - 1) (mc' := 0) (ms' := 0) [.int x_4, .int ((2 : Int32) + x_8)] k_X9_step lk_L_30 (OWx hO) rfl rfl rfl (Nat.le_of_ble_eq_true rfl) (by omega) (Nat.le_of_ble_eq_true rfl) (Nat.le_of_ble_eq_true rfl) d_L_stepsFit_228 ((sw_step (d := d - 1) (by omega) hO).mono (fun r w2 hr => ?_))
        obtain ⟨rfl, hO⟩ := hr
        refine x_icmp_ne (tgt := 238) d_L_stepsFit_231 (by decide) (fun c_231_22 => ?_) (fun c_231_22 => ?_)
        · have hQ := hQ.1 c_231_22
          refine x_iconst (v := (0 : Int32)) d_L_stepsFit_238 (by decide) ?_
          refine x_istore_n (lv2 := [(3, .int (0 : Int32)), (0, .ref x), (1, .int x_1), (2, .int x_2), (4, .int x_4), (5, .int x_5), (8, .int x_8)]) d_L_stepsFit_239 rfl (by decide) rfl ?_
          obtain ⟨x23, e_x23⟩ : ∃ z : Int32, z = x_8 + (1 : Int32) := ⟨_, rfl⟩
          have hQ := hQ x23 e_x23
          refine x_iinc (v := x23) (lv2 := [(8, .int x23), (3, .int (0 : Int32)), (0, .ref x), (1, .int x_1), (2, .int x_2), (4, .int x_4), (5, .int x_5)]) 6 d_L_stepsFit_240 rfl (by rw [e_x23]; rfl) (by decide) rfl ?_
          refine x_goto (tgt := 204) d_L_stepsFit_243 (by decide) ?_
          refine x_sub [2, 3, 4, 1, 5, 6, 0] (lv2 := [(0, .ref x), (1, .int x_1), (2, .int x_2), (3, .int (0 : Int32)), (4, .int x_4), (5, .int x_5), (8, .int x23)]) rfl ?_
          exact ih x_1 x_2 (0 : Int32) x_4 x_5 x23 _ hO hQ
        · have hQ := hQ.2 c_231_22
          refine x_iconst (v := (1 : Int32)) d_L_stepsFit_234 (by decide) ?_
          refine x_goto (tgt := 239) d_L_stepsFit_235 (by decide) ?_
          refine x_istore_n (lv2 := [(3, .int (1 : Int32)), (0, .ref x), (1, .int x_1), (2, .int x_2), (4, .int x_4), (5, .int x_5), (8, .int x_8)]) d_L_stepsFit_239 rfl (by decide) rfl ?_
          obtain ⟨x24, e_x24⟩ : ∃ z : Int32, z = x_8 + (1 : Int32) := ⟨_, rfl⟩
          have hQ := hQ x24 e_x24
          refine x_iinc (v := x24) (lv2 := [(8, .int x24), (3, .int (1 : Int32)), (0, .ref x), (1, .int x_1), (2, .int x_2), (4, .int x_4), (5, .int x_5)]) 6 d_L_stepsFit_240 rfl (by rw [e_x24]; rfl) (by decide) rfl ?_
          refine x_goto (tgt := 204) d_L_stepsFit_243 (by decide) ?_
          refine x_sub [2, 3, 4, 1, 5, 6, 0] (lv2 := [(0, .ref x), (1, .int x_1), (2, .int x_2), (3, .int (1 : Int32)), (4, .int x_4), (5, .int x_5), (8, .int x24)]) rfl ?_
          exact ih x_1 x_2 (1 : Int32) x_4 x_5 x24 _ hO hQ
def jp_L_stepsFit_199 (A : AB) (K : Int32 → Prop) (k_28 : Int32 → Int32 → Int32 → Int32 → Prop) (x_1 : Int32) (x_2 : Int32) (x_4 : Int32) (x_5 : Int32) : Prop := ∃ m : Nat, lp_L_stepsFit_204 A K k_28 m x_1 x_2 (0 : Int32) x_4 x_5 (0 : Int32)
set_option maxHeartbeats 4000000 in
theorem jt_L_stepsFit_199 {G : GX} {l : Launch} {d x : Nat} {A : AB} {K : Int32 → Prop} {k_28 : Int32 → Int32 → Int32 → Int32 → Prop} (hd : 7 ≤ d) (hk_28 : ∀ (x_1 : Int32) (x_2 : Int32) (x_3 : Int32) (x_4 : Int32) (w : HW), OW w x A → k_28 x_1 x_2 x_3 x_4 → X G l m_L_stepsFit d 0 0 0 0 28 [(0, .ref x), (1, .int x_1), (2, .int x_2), (3, .int x_3), (4, .int x_4)] [] w (fun r9 w2 => ∃ (r1 : Int32), r9 = some (.int r1) ∧ OW w2 x A ∧ K r1)) (x_1 : Int32) (x_2 : Int32) (x_4 : Int32) (x_5 : Int32) (w : HW) (hO : OW w x A) (hQ : jp_L_stepsFit_199 A K k_28 x_1 x_2 x_4 x_5) : X G l m_L_stepsFit d 0 0 0 0 199 [(0, .ref x), (1, .int x_1), (2, .int x_2), (4, .int x_4), (5, .int x_5)] [] w (fun r9 w2 => ∃ (r1 : Int32), r9 = some (.int r1) ∧ OW w2 x A ∧ K r1) := by
  refine x_iconst (v := (0 : Int32)) d_L_stepsFit_199 (by decide) ?_
  refine x_istore_n (lv2 := [(3, .int (0 : Int32)), (0, .ref x), (1, .int x_1), (2, .int x_2), (4, .int x_4), (5, .int x_5)]) d_L_stepsFit_200 rfl (by decide) rfl ?_
  refine x_iconst (v := (0 : Int32)) d_L_stepsFit_201 (by decide) ?_
  refine x_istore (lv2 := [(8, .int (0 : Int32)), (3, .int (0 : Int32)), (0, .ref x), (1, .int x_1), (2, .int x_2), (4, .int x_4), (5, .int x_5)]) d_L_stepsFit_202 (by decide) rfl ?_
  refine x_sub [2, 3, 4, 1, 5, 6, 0] (lv2 := [(0, .ref x), (1, .int x_1), (2, .int x_2), (3, .int (0 : Int32)), (4, .int x_4), (5, .int x_5), (8, .int (0 : Int32))]) rfl ?_
  obtain ⟨m, hQ⟩ := hQ
  exact jt_L_stepsFit_204 hd hk_28 m x_1 x_2 (0 : Int32) x_4 x_5 (0 : Int32) _ hO hQ
def jp_L_stepsFit_192 (A : AB) (K : Int32 → Prop) (k_28 : Int32 → Int32 → Int32 → Int32 → Prop) (x_1 : Int32) (x_2 : Int32) (x_4 : Int32) (x_5 : Int32) (t_0 : Int32) (t_1 : Int32) : Prop := ((¬ t_1 = t_0 → jp_L_stepsFit_199 A K k_28 x_1 x_2 x_4 x_5) ∧ (t_1 = t_0 → ∃ m : Nat, lp_L_stepsFit_204 A K k_28 m x_1 x_2 (1 : Int32) x_4 x_5 (0 : Int32)))
set_option maxHeartbeats 4000000 in
theorem jt_L_stepsFit_192 {G : GX} {l : Launch} {d x : Nat} {A : AB} {K : Int32 → Prop} {k_28 : Int32 → Int32 → Int32 → Int32 → Prop} (hd : 7 ≤ d) (hk_28 : ∀ (x_1 : Int32) (x_2 : Int32) (x_3 : Int32) (x_4 : Int32) (w : HW), OW w x A → k_28 x_1 x_2 x_3 x_4 → X G l m_L_stepsFit d 0 0 0 0 28 [(0, .ref x), (1, .int x_1), (2, .int x_2), (3, .int x_3), (4, .int x_4)] [] w (fun r9 w2 => ∃ (r1 : Int32), r9 = some (.int r1) ∧ OW w2 x A ∧ K r1)) (x_1 : Int32) (x_2 : Int32) (x_4 : Int32) (x_5 : Int32) (t_0 : Int32) (t_1 : Int32) (w : HW) (hO : OW w x A) (hQ : jp_L_stepsFit_192 A K k_28 x_1 x_2 x_4 x_5 t_0 t_1) : X G l m_L_stepsFit d 0 0 0 0 192 [(0, .ref x), (1, .int x_1), (2, .int x_2), (4, .int x_4), (5, .int x_5)] [.int t_0, .int t_1] w (fun r9 w2 => ∃ (r1 : Int32), r9 = some (.int r1) ∧ OW w2 x A ∧ K r1) := by
  refine x_icmp_ne (tgt := 199) d_L_stepsFit_192 (by decide) (fun c_192_26 => ?_) (fun c_192_26 => ?_)
  · have hQ := hQ.1 c_192_26
    refine x_sub [0, 1, 2, 3, 4] (lv2 := [(0, .ref x), (1, .int x_1), (2, .int x_2), (4, .int x_4), (5, .int x_5)]) rfl ?_
    exact jt_L_stepsFit_199 hd hk_28 x_1 x_2 x_4 x_5 _ hO hQ
  · have hQ := hQ.2 c_192_26
    refine x_iconst (v := (1 : Int32)) d_L_stepsFit_195 (by decide) ?_
    refine x_goto (tgt := 200) d_L_stepsFit_196 (by decide) ?_
    refine x_istore_n (lv2 := [(3, .int (1 : Int32)), (0, .ref x), (1, .int x_1), (2, .int x_2), (4, .int x_4), (5, .int x_5)]) d_L_stepsFit_200 rfl (by decide) rfl ?_
    refine x_iconst (v := (0 : Int32)) d_L_stepsFit_201 (by decide) ?_
    refine x_istore (lv2 := [(8, .int (0 : Int32)), (3, .int (1 : Int32)), (0, .ref x), (1, .int x_1), (2, .int x_2), (4, .int x_4), (5, .int x_5)]) d_L_stepsFit_202 (by decide) rfl ?_
    refine x_sub [2, 3, 4, 1, 5, 6, 0] (lv2 := [(0, .ref x), (1, .int x_1), (2, .int x_2), (3, .int (1 : Int32)), (4, .int x_4), (5, .int x_5), (8, .int (0 : Int32))]) rfl ?_
    obtain ⟨m, hQ⟩ := hQ
    exact jt_L_stepsFit_204 hd hk_28 m x_1 x_2 (1 : Int32) x_4 x_5 (0 : Int32) _ hO hQ
def jp_L_stepsFit_159 (A : AB) (K : Int32 → Prop) (k_28 : Int32 → Int32 → Int32 → Int32 → Prop) (k_109 : Int32 → Int32 → Int32 → Int32 → Int32 → Int32 → Int32 → Int32 → Prop) (x_1 : Int32) (x_2 : Int32) (x_3 : Int32) (x_4 : Int32) (x_5 : Int32) (x_6 : Int32) (x_8 : Int32) : Prop := ∀ x29 : Int32, x29 = x_8 + (1 : Int32) → k_109 x_1 x_2 x_3 x_4 x_5 x_6 (1 : Int32) x29
set_option maxHeartbeats 4000000 in
theorem jt_L_stepsFit_159 {G : GX} {l : Launch} {d x : Nat} {A : AB} {K : Int32 → Prop} {k_28 : Int32 → Int32 → Int32 → Int32 → Prop} {k_109 : Int32 → Int32 → Int32 → Int32 → Int32 → Int32 → Int32 → Int32 → Prop} (hd : 7 ≤ d) (hk_28 : ∀ (x_1 : Int32) (x_2 : Int32) (x_3 : Int32) (x_4 : Int32) (w : HW), OW w x A → k_28 x_1 x_2 x_3 x_4 → X G l m_L_stepsFit d 0 0 0 0 28 [(0, .ref x), (1, .int x_1), (2, .int x_2), (3, .int x_3), (4, .int x_4)] [] w (fun r9 w2 => ∃ (r1 : Int32), r9 = some (.int r1) ∧ OW w2 x A ∧ K r1)) (hk_109 : ∀ (x_1 : Int32) (x_2 : Int32) (x_3 : Int32) (x_4 : Int32) (x_5 : Int32) (x_6 : Int32) (x_7 : Int32) (x_8 : Int32) (w : HW), OW w x A → k_109 x_1 x_2 x_3 x_4 x_5 x_6 x_7 x_8 → X G l m_L_stepsFit d 0 0 0 0 109 [(0, .ref x), (1, .int x_1), (2, .int x_2), (3, .int x_3), (4, .int x_4), (5, .int x_5), (6, .int x_6), (7, .int x_7), (8, .int x_8)] [] w (fun r9 w2 => ∃ (r1 : Int32), r9 = some (.int r1) ∧ OW w2 x A ∧ K r1)) (x_1 : Int32) (x_2 : Int32) (x_3 : Int32) (x_4 : Int32) (x_5 : Int32) (x_6 : Int32) (x_8 : Int32) (w : HW) (hO : OW w x A) (hQ : jp_L_stepsFit_159 A K k_28 k_109 x_1 x_2 x_3 x_4 x_5 x_6 x_8) : X G l m_L_stepsFit d 0 0 0 0 159 [(0, .ref x), (1, .int x_1), (2, .int x_2), (3, .int x_3), (4, .int x_4), (5, .int x_5), (6, .int x_6), (8, .int x_8)] [] w (fun r9 w2 => ∃ (r1 : Int32), r9 = some (.int r1) ∧ OW w2 x A ∧ K r1) := by
  refine x_iconst (v := (1 : Int32)) d_L_stepsFit_159 (by decide) ?_
  refine x_goto (tgt := 164) d_L_stepsFit_160 (by decide) ?_
  refine x_istore (lv2 := [(7, .int (1 : Int32)), (0, .ref x), (1, .int x_1), (2, .int x_2), (3, .int x_3), (4, .int x_4), (5, .int x_5), (6, .int x_6), (8, .int x_8)]) d_L_stepsFit_164 (by decide) rfl ?_
  obtain ⟨x29, e_x29⟩ : ∃ z : Int32, z = x_8 + (1 : Int32) := ⟨_, rfl⟩
  have hQ := hQ x29 e_x29
  refine x_iinc (v := x29) (lv2 := [(8, .int x29), (7, .int (1 : Int32)), (0, .ref x), (1, .int x_1), (2, .int x_2), (3, .int x_3), (4, .int x_4), (5, .int x_5), (6, .int x_6)]) 8 d_L_stepsFit_166 rfl (by rw [e_x29]; rfl) (by decide) rfl ?_
  refine x_goto (tgt := 109) d_L_stepsFit_169 (by decide) ?_
  refine x_sub [2, 3, 4, 5, 6, 7, 8, 1, 0] (lv2 := [(0, .ref x), (1, .int x_1), (2, .int x_2), (3, .int x_3), (4, .int x_4), (5, .int x_5), (6, .int x_6), (7, .int (1 : Int32)), (8, .int x29)]) rfl ?_
  exact hk_109 x_1 x_2 x_3 x_4 x_5 x_6 (1 : Int32) x29 _ hO hQ
def jp_L_stepsFit_163 (A : AB) (K : Int32 → Prop) (k_28 : Int32 → Int32 → Int32 → Int32 → Prop) (k_109 : Int32 → Int32 → Int32 → Int32 → Int32 → Int32 → Int32 → Int32 → Prop) (x_1 : Int32) (x_2 : Int32) (x_3 : Int32) (x_4 : Int32) (x_5 : Int32) (x_6 : Int32) (x_8 : Int32) : Prop := ∀ x31 : Int32, x31 = x_8 + (1 : Int32) → k_109 x_1 x_2 x_3 x_4 x_5 x_6 (0 : Int32) x31
set_option maxHeartbeats 4000000 in
theorem jt_L_stepsFit_163 {G : GX} {l : Launch} {d x : Nat} {A : AB} {K : Int32 → Prop} {k_28 : Int32 → Int32 → Int32 → Int32 → Prop} {k_109 : Int32 → Int32 → Int32 → Int32 → Int32 → Int32 → Int32 → Int32 → Prop} (hd : 7 ≤ d) (hk_28 : ∀ (x_1 : Int32) (x_2 : Int32) (x_3 : Int32) (x_4 : Int32) (w : HW), OW w x A → k_28 x_1 x_2 x_3 x_4 → X G l m_L_stepsFit d 0 0 0 0 28 [(0, .ref x), (1, .int x_1), (2, .int x_2), (3, .int x_3), (4, .int x_4)] [] w (fun r9 w2 => ∃ (r1 : Int32), r9 = some (.int r1) ∧ OW w2 x A ∧ K r1)) (hk_109 : ∀ (x_1 : Int32) (x_2 : Int32) (x_3 : Int32) (x_4 : Int32) (x_5 : Int32) (x_6 : Int32) (x_7 : Int32) (x_8 : Int32) (w : HW), OW w x A → k_109 x_1 x_2 x_3 x_4 x_5 x_6 x_7 x_8 → X G l m_L_stepsFit d 0 0 0 0 109 [(0, .ref x), (1, .int x_1), (2, .int x_2), (3, .int x_3), (4, .int x_4), (5, .int x_5), (6, .int x_6), (7, .int x_7), (8, .int x_8)] [] w (fun r9 w2 => ∃ (r1 : Int32), r9 = some (.int r1) ∧ OW w2 x A ∧ K r1)) (x_1 : Int32) (x_2 : Int32) (x_3 : Int32) (x_4 : Int32) (x_5 : Int32) (x_6 : Int32) (x_8 : Int32) (w : HW) (hO : OW w x A) (hQ : jp_L_stepsFit_163 A K k_28 k_109 x_1 x_2 x_3 x_4 x_5 x_6 x_8) : X G l m_L_stepsFit d 0 0 0 0 163 [(0, .ref x), (1, .int x_1), (2, .int x_2), (3, .int x_3), (4, .int x_4), (5, .int x_5), (6, .int x_6), (8, .int x_8)] [] w (fun r9 w2 => ∃ (r1 : Int32), r9 = some (.int r1) ∧ OW w2 x A ∧ K r1) := by
  refine x_iconst (v := (0 : Int32)) d_L_stepsFit_163 (by decide) ?_
  refine x_istore (lv2 := [(7, .int (0 : Int32)), (0, .ref x), (1, .int x_1), (2, .int x_2), (3, .int x_3), (4, .int x_4), (5, .int x_5), (6, .int x_6), (8, .int x_8)]) d_L_stepsFit_164 (by decide) rfl ?_
  obtain ⟨x31, e_x31⟩ : ∃ z : Int32, z = x_8 + (1 : Int32) := ⟨_, rfl⟩
  have hQ := hQ x31 e_x31
  refine x_iinc (v := x31) (lv2 := [(8, .int x31), (7, .int (0 : Int32)), (0, .ref x), (1, .int x_1), (2, .int x_2), (3, .int x_3), (4, .int x_4), (5, .int x_5), (6, .int x_6)]) 8 d_L_stepsFit_166 rfl (by rw [e_x31]; rfl) (by decide) rfl ?_
  refine x_goto (tgt := 109) d_L_stepsFit_169 (by decide) ?_
  refine x_sub [2, 3, 4, 5, 6, 7, 8, 1, 0] (lv2 := [(0, .ref x), (1, .int x_1), (2, .int x_2), (3, .int x_3), (4, .int x_4), (5, .int x_5), (6, .int x_6), (7, .int (0 : Int32)), (8, .int x31)]) rfl ?_
  exact hk_109 x_1 x_2 x_3 x_4 x_5 x_6 (0 : Int32) x31 _ hO hQ
def lp_L_stepsFit_109 (A : AB) (K : Int32 → Prop) (k_28 : Int32 → Int32 → Int32 → Int32 → Prop) : Nat → Int32 → Int32 → Int32 → Int32 → Int32 → Int32 → Int32 → Int32 → Prop
  | 0, _, _, _, _, _, _, _, _ => False
  | n + 1, x_1, x_2, x_3, x_4, x_5, x_6, x_7, x_8 => (((3 : Int32) ≤ x_8 → ((x_3 = (0 : Int32) → jp_L_stepsFit_199 A K k_28 x_1 x_2 x_4 x_5) ∧ (¬ x_3 = (0 : Int32) → ((x_7 = (0 : Int32) → jp_L_stepsFit_192 A K k_28 x_1 x_2 x_4 x_5 (0 : Int32) x_6) ∧ (¬ x_7 = (0 : Int32) → jp_L_stepsFit_192 A K k_28 x_1 x_2 x_4 x_5 (qr_count A (1 : Int32)) x_6))))) ∧ (¬ (3 : Int32) ≤ x_8 → ∀ x27 : Int32, x27 = (qr_lag A x_8 (x_2 + x_5)) → ((¬ x_7 = (0 : Int32) → jp_L_stepsFit_159 A K k_28 (fun v0 v1 v2 v3 v4 v5 v6 v7 => lp_L_stepsFit_109 A K k_28 n v0 v1 v2 v3 v4 v5 v6 v7) x_1 x_2 x_3 x_4 x_5 x_6 x_8) ∧ (x_7 = (0 : Int32) → ((¬ (((qr_count A (14 : Int32)) >>> (x_8 &&& 31)) &&& (1 : Int32)) = (1 : Int32) → jp_L_stepsFit_163 A K k_28 (fun v0 v1 v2 v3 v4 v5 v6 v7 => lp_L_stepsFit_109 A K k_28 n v0 v1 v2 v3 v4 v5 v6 v7) x_1 x_2 x_3 x_4 x_5 x_6 x_8) ∧ ((((qr_count A (14 : Int32)) >>> (x_8 &&& 31)) &&& (1 : Int32)) = (1 : Int32) → ((x27 ≤ (0 : Int32) → jp_L_stepsFit_163 A K k_28 (fun v0 v1 v2 v3 v4 v5 v6 v7 => lp_L_stepsFit_109 A K k_28 n v0 v1 v2 v3 v4 v5 v6 v7) x_1 x_2 x_3 x_4 x_5 x_6 x_8) ∧ (¬ x27 ≤ (0 : Int32) → ((x_5 ≤ x27 → jp_L_stepsFit_163 A K k_28 (fun v0 v1 v2 v3 v4 v5 v6 v7 => lp_L_stepsFit_109 A K k_28 n v0 v1 v2 v3 v4 v5 v6 v7) x_1 x_2 x_3 x_4 x_5 x_6 x_8) ∧ (¬ x_5 ≤ x27 → jp_L_stepsFit_159 A K k_28 (fun v0 v1 v2 v3 v4 v5 v6 v7 => lp_L_stepsFit_109 A K k_28 n v0 v1 v2 v3 v4 v5 v6 v7) x_1 x_2 x_3 x_4 x_5 x_6 x_8))))))))))
set_option maxHeartbeats 4000000 in
theorem jt_L_stepsFit_109 {G : GX} {l : Launch} {d x : Nat} {A : AB} {K : Int32 → Prop} {k_28 : Int32 → Int32 → Int32 → Int32 → Prop} (hd : 7 ≤ d) (hk_28 : ∀ (x_1 : Int32) (x_2 : Int32) (x_3 : Int32) (x_4 : Int32) (w : HW), OW w x A → k_28 x_1 x_2 x_3 x_4 → X G l m_L_stepsFit d 0 0 0 0 28 [(0, .ref x), (1, .int x_1), (2, .int x_2), (3, .int x_3), (4, .int x_4)] [] w (fun r9 w2 => ∃ (r1 : Int32), r9 = some (.int r1) ∧ OW w2 x A ∧ K r1)) : ∀ (n : Nat) (x_1 : Int32) (x_2 : Int32) (x_3 : Int32) (x_4 : Int32) (x_5 : Int32) (x_6 : Int32) (x_7 : Int32) (x_8 : Int32) (w : HW), OW w x A → lp_L_stepsFit_109 A K k_28 n x_1 x_2 x_3 x_4 x_5 x_6 x_7 x_8 → X G l m_L_stepsFit d 0 0 0 0 109 [(0, .ref x), (1, .int x_1), (2, .int x_2), (3, .int x_3), (4, .int x_4), (5, .int x_5), (6, .int x_6), (7, .int x_7), (8, .int x_8)] [] w (fun r9 w2 => ∃ (r1 : Int32), r9 = some (.int r1) ∧ OW w2 x A ∧ K r1) := by
  intro n
  induction n with
  | zero =>
    intro x_1 x_2 x_3 x_4 x_5 x_6 x_7 x_8 w hO hQ
    exact hQ.elim
  | succ n ih =>
    intro x_1 x_2 x_3 x_4 x_5 x_6 x_7 x_8 w hO hQ
    refine x_iload 8 d_L_stepsFit_109 rfl ?_
    refine x_iconst (v := (3 : Int32)) d_L_stepsFit_111 (by decide) ?_
    refine x_icmp_ge (tgt := 172) d_L_stepsFit_112 (by decide) (fun c_112_10 => ?_) (fun c_112_10 => ?_)
    · have hQ := hQ.1 c_112_10
      refine x_iload_n 3 d_L_stepsFit_172 rfl rfl ?_
      refine x_if_eq (tgt := 199) d_L_stepsFit_173 (by decide) (fun c_173_11 => ?_) (fun c_173_11 => ?_)
      · have hQ := hQ.1 c_173_11
        refine x_sub [0, 1, 2, 4, 5] (lv2 := [(0, .ref x), (1, .int x_1), (2, .int x_2), (4, .int x_4), (5, .int x_5)]) rfl ?_
        exact jt_L_stepsFit_199 hd hk_28 x_1 x_2 x_4 x_5 _ hO hQ
      · have hQ := hQ.2 c_173_11
        refine x_iload 6 d_L_stepsFit_176 rfl ?_
        refine x_iload 7 d_L_stepsFit_178 rfl ?_
        refine x_if_eq (tgt := 191) d_L_stepsFit_180 (by decide) (fun c_180_25 => ?_) (fun c_180_25 => ?_)
        · have hQ := hQ.1 c_180_25
          refine x_iconst (v := (0 : Int32)) d_L_stepsFit_191 (by decide) ?_
          refine x_sub [0, 1, 2, 4, 5] (lv2 := [(0, .ref x), (1, .int x_1), (2, .int x_2), (4, .int x_4), (5, .int x_5)]) rfl ?_
          exact jt_L_stepsFit_192 hd hk_28 x_1 x_2 x_4 x_5 (0 : Int32) x_6 _ hO hQ
        · have hQ := hQ.2 c_180_25
          refine x_aload_n 0 d_L_stepsFit_183 rfl rfl ?_
          refine x_iconst (v := (1 : Int32)) d_L_stepsFit_184 (by decide) ?_
          refine x_invV (rest := [.int x_6]) (d' := d - 1) (mc' := 0) (ms' := 0) [.int (1 : Int32)] k_X9_count lk_L_21 (OWx hO) rfl rfl rfl (Nat.le_of_ble_eq_true rfl) (by omega) (Nat.le_of_ble_eq_true rfl) (Nat.le_of_ble_eq_true rfl) d_L_stepsFit_185 ((sw_count (d := d - 1) (by omega) hO (h6 := by decide)).mono (fun r w2 hr => ?_))
          obtain ⟨rfl, hO⟩ := hr
          refine x_goto (tgt := 192) d_L_stepsFit_188 (by decide) ?_
          refine x_sub [0, 1, 2, 4, 5] (lv2 := [(0, .ref x), (1, .int x_1), (2, .int x_2), (4, .int x_4), (5, .int x_5)]) rfl ?_
          exact jt_L_stepsFit_192 hd hk_28 x_1 x_2 x_4 x_5 (qr_count A (1 : Int32)) x_6 _ hO hQ
    · have hQ := hQ.2 c_112_10
      refine x_aload_n 0 d_L_stepsFit_115 rfl rfl ?_
      refine x_iload 8 d_L_stepsFit_116 rfl ?_
      refine x_iload_n 2 d_L_stepsFit_118 rfl rfl ?_
      refine x_iload 5 d_L_stepsFit_119 rfl ?_
      refine x_iadd d_L_stepsFit_121 ?_
      refine x_invV (rest := []) (d' := d - 1) (mc' := 0) (ms' := 0) [.int x_8, .int (x_2 + x_5)] k_X9_lag lk_L_33 (OWx hO) rfl rfl rfl (Nat.le_of_ble_eq_true rfl) (by omega) (Nat.le_of_ble_eq_true rfl) (Nat.le_of_ble_eq_true rfl) d_L_stepsFit_122 ((sw_lag (d := d - 1) (by omega) hO).mono (fun r w2 hr => ?_))
      obtain ⟨rfl, hO⟩ := hr
      refine x_topi (fun x27 e_x27 => ?_)
      have hQ := hQ x27 e_x27
      refine x_istore (lv2 := [(9, .int x27), (0, .ref x), (1, .int x_1), (2, .int x_2), (3, .int x_3), (4, .int x_4), (5, .int x_5), (6, .int x_6), (7, .int x_7), (8, .int x_8)]) d_L_stepsFit_125 (by decide) rfl ?_
      refine x_iload 8 d_L_stepsFit_127 rfl ?_
      refine x_if_ne (tgt := 159) d_L_stepsFit_129 (by decide) (fun c_129_28 => ?_) (fun c_129_28 => ?_)
      · have hQ := hQ.1 c_129_28
        refine x_sub [1, 2, 3, 4, 5, 6, 7, 9] (lv2 := [(0, .ref x), (1, .int x_1), (2, .int x_2), (3, .int x_3), (4, .int x_4), (5, .int x_5), (6, .int x_6), (8, .int x_8)]) rfl ?_
        exact jt_L_stepsFit_159 hd hk_28 ih x_1 x_2 x_3 x_4 x_5 x_6 x_8 _ hO hQ
      · have hQ := hQ.2 c_129_28
        refine x_aload_n 1 d_L_stepsFit_132 rfl rfl ?_
        refine x_bipush (v := (14 : Int32)) d_L_stepsFit_133 (by decide) ?_
        refine x_invV (rest := []) (d' := d - 1) (mc' := 0) (ms' := 0) [.int (14 : Int32)] k_X9_count lk_L_21 (OWx hO) rfl rfl rfl (Nat.le_of_ble_eq_true rfl) (by omega) (Nat.le_of_ble_eq_true rfl) (Nat.le_of_ble_eq_true rfl) d_L_stepsFit_135 ((sw_count (d := d - 1) (by omega) hO (h6 := by decide)).mono (fun r w2 hr => ?_))
        obtain ⟨rfl, hO⟩ := hr
        refine x_iload 9 d_L_stepsFit_138 rfl ?_
        refine x_ishr d_L_stepsFit_140 ?_
        refine x_iconst (v := (1 : Int32)) d_L_stepsFit_141 (by decide) ?_
        refine x_iand d_L_stepsFit_142 ?_
        refine x_iconst (v := (1 : Int32)) d_L_stepsFit_143 (by decide) ?_
        refine x_icmp_ne (tgt := 163) d_L_stepsFit_144 (by decide) (fun c_144_30 => ?_) (fun c_144_30 => ?_)
        · have hQ := hQ.1 c_144_30
          refine x_sub [1, 2, 3, 4, 5, 6, 7, 9] (lv2 := [(0, .ref x), (1, .int x_1), (2, .int x_2), (3, .int x_3), (4, .int x_4), (5, .int x_5), (6, .int x_6), (8, .int x_8)]) rfl ?_
          exact jt_L_stepsFit_163 hd hk_28 ih x_1 x_2 x_3 x_4 x_5 x_6 x_8 _ hO hQ
        · have hQ := hQ.2 c_144_30
          refine x_iload 0 d_L_stepsFit_147 rfl ?_
          refine x_if_le (tgt := 163) d_L_stepsFit_149 (by decide) (fun c_149_32 => ?_) (fun c_149_32 => ?_)
          · have hQ := hQ.1 c_149_32
            refine x_sub [1, 2, 3, 4, 5, 6, 7, 9] (lv2 := [(0, .ref x), (1, .int x_1), (2, .int x_2), (3, .int x_3), (4, .int x_4), (5, .int x_5), (6, .int x_6), (8, .int x_8)]) rfl ?_
            exact jt_L_stepsFit_163 hd hk_28 ih x_1 x_2 x_3 x_4 x_5 x_6 x_8 _ hO hQ
          · have hQ := hQ.2 c_149_32
            refine x_iload 0 d_L_stepsFit_152 rfl ?_
            refine x_iload 6 d_L_stepsFit_154 rfl ?_
            refine x_icmp_ge (tgt := 163) d_L_stepsFit_156 (by decide) (fun c_156_33 => ?_) (fun c_156_33 => ?_)
            · have hQ := hQ.1 c_156_33
              refine x_sub [1, 2, 3, 4, 5, 6, 7, 9] (lv2 := [(0, .ref x), (1, .int x_1), (2, .int x_2), (3, .int x_3), (4, .int x_4), (5, .int x_5), (6, .int x_6), (8, .int x_8)]) rfl ?_
              exact jt_L_stepsFit_163 hd hk_28 ih x_1 x_2 x_3 x_4 x_5 x_6 x_8 _ hO hQ
            · have hQ := hQ.2 c_156_33
              refine x_sub [1, 2, 3, 4, 5, 6, 7, 9] (lv2 := [(0, .ref x), (1, .int x_1), (2, .int x_2), (3, .int x_3), (4, .int x_4), (5, .int x_5), (6, .int x_6), (8, .int x_8)]) rfl ?_
              exact jt_L_stepsFit_159 hd hk_28 ih x_1 x_2 x_3 x_4 x_5 x_6 x_8 _ hO hQ
def jp_L_stepsFit_102 (A : AB) (K : Int32 → Prop) (k_28 : Int32 → Int32 → Int32 → Int32 → Prop) (x_1 : Int32) (x_2 : Int32) (x_4 : Int32) (x_5 : Int32) (x_6 : Int32) (t_0 : Int32) : Prop := ∃ m : Nat, lp_L_stepsFit_109 A K k_28 m x_1 x_2 t_0 x_4 x_5 x_6 (0 : Int32) (0 : Int32)
set_option maxHeartbeats 4000000 in
theorem jt_L_stepsFit_102 {G : GX} {l : Launch} {d x : Nat} {A : AB} {K : Int32 → Prop} {k_28 : Int32 → Int32 → Int32 → Int32 → Prop} (hd : 7 ≤ d) (hk_28 : ∀ (x_1 : Int32) (x_2 : Int32) (x_3 : Int32) (x_4 : Int32) (w : HW), OW w x A → k_28 x_1 x_2 x_3 x_4 → X G l m_L_stepsFit d 0 0 0 0 28 [(0, .ref x), (1, .int x_1), (2, .int x_2), (3, .int x_3), (4, .int x_4)] [] w (fun r9 w2 => ∃ (r1 : Int32), r9 = some (.int r1) ∧ OW w2 x A ∧ K r1)) (x_1 : Int32) (x_2 : Int32) (x_4 : Int32) (x_5 : Int32) (x_6 : Int32) (t_0 : Int32) (w : HW) (hO : OW w x A) (hQ : jp_L_stepsFit_102 A K k_28 x_1 x_2 x_4 x_5 x_6 t_0) : X G l m_L_stepsFit d 0 0 0 0 102 [(0, .ref x), (1, .int x_1), (2, .int x_2), (4, .int x_4), (5, .int x_5), (6, .int x_6)] [.int t_0] w (fun r9 w2 => ∃ (r1 : Int32), r9 = some (.int r1) ∧ OW w2 x A ∧ K r1) := by
  refine x_istore_n (lv2 := [(3, .int t_0), (0, .ref x), (1, .int x_1), (2, .int x_2), (4, .int x_4), (5, .int x_5), (6, .int x_6)]) d_L_stepsFit_102 rfl (by decide) rfl ?_
  refine x_iconst (v := (0 : Int32)) d_L_stepsFit_103 (by decide) ?_
  refine x_istore (lv2 := [(7, .int (0 : Int32)), (3, .int t_0), (0, .ref x), (1, .int x_1), (2, .int x_2), (4, .int x_4), (5, .int x_5), (6, .int x_6)]) d_L_stepsFit_104 (by decide) rfl ?_
  refine x_iconst (v := (0 : Int32)) d_L_stepsFit_106 (by decide) ?_
  refine x_istore (lv2 := [(8, .int (0 : Int32)), (7, .int (0 : Int32)), (3, .int t_0), (0, .ref x), (1, .int x_1), (2, .int x_2), (4, .int x_4), (5, .int x_5), (6, .int x_6)]) d_L_stepsFit_107 (by decide) rfl ?_
  refine x_sub [3, 4, 5, 2, 6, 7, 8, 1, 0] (lv2 := [(0, .ref x), (1, .int x_1), (2, .int x_2), (3, .int t_0), (4, .int x_4), (5, .int x_5), (6, .int x_6), (7, .int (0 : Int32)), (8, .int (0 : Int32))]) rfl ?_
  obtain ⟨m, hQ⟩ := hQ
  exact jt_L_stepsFit_109 hd hk_28 m x_1 x_2 t_0 x_4 x_5 x_6 (0 : Int32) (0 : Int32) _ hO hQ
def jp_L_stepsFit_101 (A : AB) (K : Int32 → Prop) (k_28 : Int32 → Int32 → Int32 → Int32 → Prop) (x_1 : Int32) (x_2 : Int32) (x_4 : Int32) (x_5 : Int32) (x_6 : Int32) : Prop := jp_L_stepsFit_102 A K k_28 x_1 x_2 x_4 x_5 x_6 (0 : Int32)
set_option maxHeartbeats 4000000 in
theorem jt_L_stepsFit_101 {G : GX} {l : Launch} {d x : Nat} {A : AB} {K : Int32 → Prop} {k_28 : Int32 → Int32 → Int32 → Int32 → Prop} (hd : 7 ≤ d) (hk_28 : ∀ (x_1 : Int32) (x_2 : Int32) (x_3 : Int32) (x_4 : Int32) (w : HW), OW w x A → k_28 x_1 x_2 x_3 x_4 → X G l m_L_stepsFit d 0 0 0 0 28 [(0, .ref x), (1, .int x_1), (2, .int x_2), (3, .int x_3), (4, .int x_4)] [] w (fun r9 w2 => ∃ (r1 : Int32), r9 = some (.int r1) ∧ OW w2 x A ∧ K r1)) (x_1 : Int32) (x_2 : Int32) (x_4 : Int32) (x_5 : Int32) (x_6 : Int32) (w : HW) (hO : OW w x A) (hQ : jp_L_stepsFit_101 A K k_28 x_1 x_2 x_4 x_5 x_6) : X G l m_L_stepsFit d 0 0 0 0 101 [(0, .ref x), (1, .int x_1), (2, .int x_2), (4, .int x_4), (5, .int x_5), (6, .int x_6)] [] w (fun r9 w2 => ∃ (r1 : Int32), r9 = some (.int r1) ∧ OW w2 x A ∧ K r1) := by
  refine x_iconst (v := (0 : Int32)) d_L_stepsFit_101 (by decide) ?_
  refine x_sub [0, 1, 2, 3, 4, 5] (lv2 := [(0, .ref x), (1, .int x_1), (2, .int x_2), (4, .int x_4), (5, .int x_5), (6, .int x_6)]) rfl ?_
  exact jt_L_stepsFit_102 hd hk_28 x_1 x_2 x_4 x_5 x_6 (0 : Int32) _ hO hQ
def jp_L_stepsFit_97 (A : AB) (K : Int32 → Prop) (k_28 : Int32 → Int32 → Int32 → Int32 → Prop) (x_1 : Int32) (x_2 : Int32) (x_4 : Int32) (x_5 : Int32) (x_6 : Int32) : Prop := jp_L_stepsFit_102 A K k_28 x_1 x_2 x_4 x_5 x_6 (1 : Int32)
set_option maxHeartbeats 4000000 in
theorem jt_L_stepsFit_97 {G : GX} {l : Launch} {d x : Nat} {A : AB} {K : Int32 → Prop} {k_28 : Int32 → Int32 → Int32 → Int32 → Prop} (hd : 7 ≤ d) (hk_28 : ∀ (x_1 : Int32) (x_2 : Int32) (x_3 : Int32) (x_4 : Int32) (w : HW), OW w x A → k_28 x_1 x_2 x_3 x_4 → X G l m_L_stepsFit d 0 0 0 0 28 [(0, .ref x), (1, .int x_1), (2, .int x_2), (3, .int x_3), (4, .int x_4)] [] w (fun r9 w2 => ∃ (r1 : Int32), r9 = some (.int r1) ∧ OW w2 x A ∧ K r1)) (x_1 : Int32) (x_2 : Int32) (x_4 : Int32) (x_5 : Int32) (x_6 : Int32) (w : HW) (hO : OW w x A) (hQ : jp_L_stepsFit_97 A K k_28 x_1 x_2 x_4 x_5 x_6) : X G l m_L_stepsFit d 0 0 0 0 97 [(0, .ref x), (1, .int x_1), (2, .int x_2), (4, .int x_4), (5, .int x_5), (6, .int x_6)] [] w (fun r9 w2 => ∃ (r1 : Int32), r9 = some (.int r1) ∧ OW w2 x A ∧ K r1) := by
  refine x_iconst (v := (1 : Int32)) d_L_stepsFit_97 (by decide) ?_
  refine x_goto (tgt := 102) d_L_stepsFit_98 (by decide) ?_
  refine x_sub [0, 1, 2, 3, 4, 5] (lv2 := [(0, .ref x), (1, .int x_1), (2, .int x_2), (4, .int x_4), (5, .int x_5), (6, .int x_6)]) rfl ?_
  exact jt_L_stepsFit_102 hd hk_28 x_1 x_2 x_4 x_5 x_6 (1 : Int32) _ hO hQ
def lp_L_stepsFit_28 (A : AB) (K : Int32 → Prop) : Nat → Int32 → Int32 → Int32 → Int32 → Prop
  | 0, _, _, _, _ => False
  | n + 1, x_1, x_2, x_3, x_4 => ((x_1 ≤ x_4 → jp_L_stepsFit_304 A K x_2 x_3) ∧ (¬ x_1 ≤ x_4 → ((x_3 = (0 : Int32) → jp_L_stepsFit_304 A K x_2 x_3) ∧ (¬ x_3 = (0 : Int32) → ∀ x7 : Int32, x7 = (qr_step A x_4 (1 : Int32)) → ∀ x8 : Int32, x8 = (qr_step A x_4 (5 : Int32)) → ((¬ (qr_step A x_4 (0 : Int32)) = x_2 → jp_L_stepsFit_101 A K (fun v0 v1 v2 v3 => lp_L_stepsFit_28 A K n v0 v1 v2 v3) x_1 x_2 x_4 x7 x8) ∧ ((qr_step A x_4 (0 : Int32)) = x_2 → ((x7 ≤ (0 : Int32) → jp_L_stepsFit_101 A K (fun v0 v1 v2 v3 => lp_L_stepsFit_28 A K n v0 v1 v2 v3) x_1 x_2 x_4 x7 x8) ∧ (¬ x7 ≤ (0 : Int32) → (((qr_count A (0 : Int32)) < x7 → jp_L_stepsFit_101 A K (fun v0 v1 v2 v3 => lp_L_stepsFit_28 A K n v0 v1 v2 v3) x_1 x_2 x_4 x7 x8) ∧ (¬ (qr_count A (0 : Int32)) < x7 → ((x8 = (0 : Int32) → jp_L_stepsFit_97 A K (fun v0 v1 v2 v3 => lp_L_stepsFit_28 A K n v0 v1 v2 v3) x_1 x_2 x_4 x7 x8) ∧ (¬ x8 = (0 : Int32) → ((¬ x8 = (qr_count A (1 : Int32)) → jp_L_stepsFit_101 A K (fun v0 v1 v2 v3 => lp_L_stepsFit_28 A K n v0 v1 v2 v3) x_1 x_2 x_4 x7 x8) ∧ (x8 = (qr_count A (1 : Int32)) → jp_L_stepsFit_97 A K (fun v0 v1 v2 v3 => lp_L_stepsFit_28 A K n v0 v1 v2 v3) x_1 x_2 x_4 x7 x8))))))))))))))
set_option maxHeartbeats 4000000 in
theorem jt_L_stepsFit_28 {G : GX} {l : Launch} {d x : Nat} {A : AB} {K : Int32 → Prop} (hd : 7 ≤ d) : ∀ (n : Nat) (x_1 : Int32) (x_2 : Int32) (x_3 : Int32) (x_4 : Int32) (w : HW), OW w x A → lp_L_stepsFit_28 A K n x_1 x_2 x_3 x_4 → X G l m_L_stepsFit d 0 0 0 0 28 [(0, .ref x), (1, .int x_1), (2, .int x_2), (3, .int x_3), (4, .int x_4)] [] w (fun r9 w2 => ∃ (r1 : Int32), r9 = some (.int r1) ∧ OW w2 x A ∧ K r1) := by
  intro n
  induction n with
  | zero =>
    intro x_1 x_2 x_3 x_4 w hO hQ
    exact hQ.elim
  | succ n ih =>
    intro x_1 x_2 x_3 x_4 w hO hQ
    refine x_iload 4 d_L_stepsFit_28 rfl ?_
    refine x_iload_n 1 d_L_stepsFit_30 rfl rfl ?_
    refine x_icmp_ge (tgt := 304) d_L_stepsFit_31 (by decide) (fun c_31_3 => ?_) (fun c_31_3 => ?_)
    · have hQ := hQ.1 c_31_3
      refine x_sub [0, 2, 3] (lv2 := [(0, .ref x), (2, .int x_2), (3, .int x_3)]) rfl ?_
      exact jt_L_stepsFit_304 hd x_2 x_3 _ hO hQ
    · have hQ := hQ.2 c_31_3
      refine x_iload_n 3 d_L_stepsFit_34 rfl rfl ?_
      refine x_if_eq (tgt := 304) d_L_stepsFit_35 (by decide) (fun c_35_6 => ?_) (fun c_35_6 => ?_)
      · have hQ := hQ.1 c_35_6
        refine x_sub [0, 2, 3] (lv2 := [(0, .ref x), (2, .int x_2), (3, .int x_3)]) rfl ?_
        exact jt_L_stepsFit_304 hd x_2 x_3 _ hO hQ
      · have hQ := hQ.2 c_35_6
        refine x_aload_n 0 d_L_stepsFit_38 rfl rfl ?_
        refine x_iload 4 d_L_stepsFit_39 rfl ?_
        refine x_iconst (v := (1 : Int32)) d_L_stepsFit_41 (by decide) ?_
        refine x_invV (rest := []) (d' := d - 1) (mc' := 0) (ms' := 0) [.int x_4, .int (1 : Int32)] k_X9_step lk_L_30 (OWx hO) rfl rfl rfl (Nat.le_of_ble_eq_true rfl) (by omega) (Nat.le_of_ble_eq_true rfl) (Nat.le_of_ble_eq_true rfl) d_L_stepsFit_42 ((sw_step (d := d - 1) (by omega) hO).mono (fun r w2 hr => ?_))
        obtain ⟨rfl, hO⟩ := hr
        refine x_topi (fun x7 e_x7 => ?_)
        have hQ := hQ x7 e_x7
        refine x_istore (lv2 := [(5, .int x7), (0, .ref x), (1, .int x_1), (2, .int x_2), (3, .int x_3), (4, .int x_4)]) d_L_stepsFit_45 (by decide) rfl ?_
        refine x_aload_n 1 d_L_stepsFit_47 rfl rfl ?_
        refine x_iload 5 d_L_stepsFit_48 rfl ?_
        refine x_iconst (v := (5 : Int32)) d_L_stepsFit_50 (by decide) ?_
        refine x_invV (rest := []) (d' := d - 1) (mc' := 0) (ms' := 0) [.int x_4, .int (5 : Int32)] k_X9_step lk_L_30 (OWx hO) rfl rfl rfl (Nat.le_of_ble_eq_true rfl) (by omega) (Nat.le_of_ble_eq_true rfl) (Nat.le_of_ble_eq_true rfl) d_L_stepsFit_51 ((sw_step (d := d - 1) (by omega) hO).mono (fun r w2 hr => ?_))
        obtain ⟨rfl, hO⟩ := hr
        refine x_topi (fun x8 e_x8 => ?_)
        have hQ := hQ x8 e_x8
        refine x_istore (lv2 := [(6, .int x8), (5, .int x7), (0, .ref x), (1, .int x_1), (2, .int x_2), (3, .int x_3), (4, .int x_4)]) d_L_stepsFit_54 (by decide) rfl ?_
        refine x_aload_n 2 d_L_stepsFit_56 rfl rfl ?_
        refine x_iload 6 d_L_stepsFit_57 rfl ?_
        refine x_iconst (v := (0 : Int32)) d_L_stepsFit_59 (by decide) ?_
        refine x_invV (rest := []) (d' := d - 1) (mc' := 0) (ms' := 0) [.int x_4, .int (0 : Int32)] k_X9_step lk_L_30 (OWx hO) rfl rfl rfl (Nat.le_of_ble_eq_true rfl) (by omega) (Nat.le_of_ble_eq_true rfl) (Nat.le_of_ble_eq_true rfl) d_L_stepsFit_60 ((sw_step (d := d - 1) (by omega) hO).mono (fun r w2 hr => ?_))
        obtain ⟨rfl, hO⟩ := hr
        refine x_iload_n 4 d_L_stepsFit_63 rfl rfl ?_
        refine x_icmp_ne (tgt := 101) d_L_stepsFit_64 (by decide) (fun c_64_9 => ?_) (fun c_64_9 => ?_)
        · have hQ := hQ.1 c_64_9
          refine x_sub [2, 3, 4, 6, 1, 0] (lv2 := [(0, .ref x), (1, .int x_1), (2, .int x_2), (4, .int x_4), (5, .int x7), (6, .int x8)]) rfl ?_
          exact jt_L_stepsFit_101 hd ih x_1 x_2 x_4 x7 x8 _ hO hQ
        · have hQ := hQ.2 c_64_9
          refine x_iload 1 d_L_stepsFit_67 rfl ?_
          refine x_if_le (tgt := 101) d_L_stepsFit_69 (by decide) (fun c_69_34 => ?_) (fun c_69_34 => ?_)
          · have hQ := hQ.1 c_69_34
            refine x_sub [2, 3, 4, 6, 1, 0] (lv2 := [(0, .ref x), (1, .int x_1), (2, .int x_2), (4, .int x_4), (5, .int x7), (6, .int x8)]) rfl ?_
            exact jt_L_stepsFit_101 hd ih x_1 x_2 x_4 x7 x8 _ hO hQ
          · have hQ := hQ.2 c_69_34
            refine x_iload 1 d_L_stepsFit_72 rfl ?_
            refine x_aload_n 2 d_L_stepsFit_74 rfl rfl ?_
            refine x_iconst (v := (0 : Int32)) d_L_stepsFit_75 (by decide) ?_
            refine x_invV (rest := [.int x7]) (d' := d - 1) (mc' := 0) (ms' := 0) [.int (0 : Int32)] k_X9_count lk_L_21 (OWx hO) rfl rfl rfl (Nat.le_of_ble_eq_true rfl) (by omega) (Nat.le_of_ble_eq_true rfl) (Nat.le_of_ble_eq_true rfl) d_L_stepsFit_76 ((sw_count (d := d - 1) (by omega) hO (h6 := by decide)).mono (fun r w2 hr => ?_))
            obtain ⟨rfl, hO⟩ := hr
            refine x_icmp_gt (tgt := 101) d_L_stepsFit_79 (by decide) (fun c_79_35 => ?_) (fun c_79_35 => ?_)
            · have hQ := hQ.1 c_79_35
              refine x_sub [2, 3, 4, 6, 1, 0] (lv2 := [(0, .ref x), (1, .int x_1), (2, .int x_2), (4, .int x_4), (5, .int x7), (6, .int x8)]) rfl ?_
              exact jt_L_stepsFit_101 hd ih x_1 x_2 x_4 x7 x8 _ hO hQ
            · have hQ := hQ.2 c_79_35
              refine x_iload 0 d_L_stepsFit_82 rfl ?_
              refine x_if_eq (tgt := 97) d_L_stepsFit_84 (by decide) (fun c_84_36 => ?_) (fun c_84_36 => ?_)
              · have hQ := hQ.1 c_84_36
                refine x_sub [2, 3, 4, 6, 1, 0] (lv2 := [(0, .ref x), (1, .int x_1), (2, .int x_2), (4, .int x_4), (5, .int x7), (6, .int x8)]) rfl ?_
                exact jt_L_stepsFit_97 hd ih x_1 x_2 x_4 x7 x8 _ hO hQ
              · have hQ := hQ.2 c_84_36
                refine x_iload 0 d_L_stepsFit_87 rfl ?_
                refine x_aload_n 2 d_L_stepsFit_89 rfl rfl ?_
                refine x_iconst (v := (1 : Int32)) d_L_stepsFit_90 (by decide) ?_
                refine x_invV (rest := [.int x8]) (d' := d - 1) (mc' := 0) (ms' := 0) [.int (1 : Int32)] k_X9_count lk_L_21 (OWx hO) rfl rfl rfl (Nat.le_of_ble_eq_true rfl) (by omega) (Nat.le_of_ble_eq_true rfl) (Nat.le_of_ble_eq_true rfl) d_L_stepsFit_91 ((sw_count (d := d - 1) (by omega) hO (h6 := by decide)).mono (fun r w2 hr => ?_))
                obtain ⟨rfl, hO⟩ := hr
                refine x_icmp_ne (tgt := 101) d_L_stepsFit_94 (by decide) (fun c_94_37 => ?_) (fun c_94_37 => ?_)
                · have hQ := hQ.1 c_94_37
                  refine x_sub [2, 3, 4, 6, 1, 0] (lv2 := [(0, .ref x), (1, .int x_1), (2, .int x_2), (4, .int x_4), (5, .int x7), (6, .int x8)]) rfl ?_
                  exact jt_L_stepsFit_101 hd ih x_1 x_2 x_4 x7 x8 _ hO hQ
                · have hQ := hQ.2 c_94_37
                  refine x_sub [2, 3, 4, 6, 1, 0] (lv2 := [(0, .ref x), (1, .int x_1), (2, .int x_2), (4, .int x_4), (5, .int x7), (6, .int x8)]) rfl ?_
                  exact jt_L_stepsFit_97 hd ih x_1 x_2 x_4 x7 x8 _ hO hQ
def wp_L_stepsFit (A : AB) (K : Int32 → Prop) : Prop := ∀ x1 : Int32, x1 = (qr_count A (4 : Int32)) → ((¬ (qr_step A x1 (0 : Int32)) = (-2000000004 : Int32) → ∃ m : Nat, lp_L_stepsFit_28 A K m x1 (0 : Int32) (0 : Int32) (0 : Int32)) ∧ ((qr_step A x1 (0 : Int32)) = (-2000000004 : Int32) → ∃ m : Nat, lp_L_stepsFit_28 A K m x1 (0 : Int32) (1 : Int32) (0 : Int32)))
set_option maxHeartbeats 4000000 in
theorem sp_L_stepsFit {G : GX} {l : Launch} {d x : Nat} {w : HW} {A : AB} {K : Int32 → Prop} (hd : 7 ≤ d) (hO : OW w x A) (hQ : wp_L_stepsFit A K) : Sp G l m_L_stepsFit d 0 0 [.ref x] w (fun r9 w2 => ∃ (r1 : Int32), r9 = some (.int r1) ∧ OW w2 x A ∧ K r1) := by
  refine Sp.ofX k_L_stepsFit.1.1 (Nat.le_of_ble_eq_true rfl) ?_
  refine X.lv (lv2 := [(0, .ref x)]) rfl ?_
  refine x_aload_n 0 d_L_stepsFit_0 rfl rfl ?_
  refine x_iconst (v := (4 : Int32)) d_L_stepsFit_1 (by decide) ?_
  refine x_invV (rest := []) (d' := d - 1) (mc' := 0) (ms' := 0) [.int (4 : Int32)] k_X9_count lk_L_21 (OWx hO) rfl rfl rfl (Nat.le_of_ble_eq_true rfl) (by omega) (Nat.le_of_ble_eq_true rfl) (Nat.le_of_ble_eq_true rfl) d_L_stepsFit_2 ((sw_count (d := d - 1) (by omega) hO (h6 := by decide)).mono (fun r w2 hr => ?_))
  obtain ⟨rfl, hO⟩ := hr
  refine x_topi (fun x1 e_x1 => ?_)
  have hQ := hQ x1 e_x1
  refine x_istore_n (lv2 := [(1, .int x1), (0, .ref x)]) d_L_stepsFit_5 rfl (by decide) rfl ?_
  refine x_iconst (v := (0 : Int32)) d_L_stepsFit_6 (by decide) ?_
  refine x_istore_n (lv2 := [(2, .int (0 : Int32)), (1, .int x1), (0, .ref x)]) d_L_stepsFit_7 rfl (by decide) rfl ?_
  refine x_aload_n 2 d_L_stepsFit_8 rfl rfl ?_
  refine x_iload_n 1 d_L_stepsFit_9 rfl rfl ?_
  refine x_iconst (v := (0 : Int32)) d_L_stepsFit_10 (by decide) ?_
  refine x_invV (rest := []) (d' := d - 1) (mc' := 0) (ms' := 0) [.int x1, .int (0 : Int32)] k_X9_step lk_L_30 (OWx hO) rfl rfl rfl (Nat.le_of_ble_eq_true rfl) (by omega) (Nat.le_of_ble_eq_true rfl) (Nat.le_of_ble_eq_true rfl) d_L_stepsFit_11 ((sw_step (d := d - 1) (by omega) hO).mono (fun r w2 hr => ?_))
  obtain ⟨rfl, hO⟩ := hr
  refine x_ldc (v := (-2000000004 : Int32)) kc_L_16 d_L_stepsFit_14 ?_
  refine x_icmp_ne (tgt := 23) d_L_stepsFit_16 (by decide) (fun c_16_2 => ?_) (fun c_16_2 => ?_)
  · have hQ := hQ.1 c_16_2
    refine x_iconst (v := (0 : Int32)) d_L_stepsFit_23 (by decide) ?_
    refine x_istore_n (lv2 := [(3, .int (0 : Int32)), (2, .int (0 : Int32)), (1, .int x1), (0, .ref x)]) d_L_stepsFit_24 rfl (by decide) rfl ?_
    refine x_iconst (v := (0 : Int32)) d_L_stepsFit_25 (by decide) ?_
    refine x_istore (lv2 := [(4, .int (0 : Int32)), (3, .int (0 : Int32)), (2, .int (0 : Int32)), (1, .int x1), (0, .ref x)]) d_L_stepsFit_26 (by decide) rfl ?_
    refine x_sub [4, 3, 2, 1, 0] (lv2 := [(0, .ref x), (1, .int x1), (2, .int (0 : Int32)), (3, .int (0 : Int32)), (4, .int (0 : Int32))]) rfl ?_
    obtain ⟨m, hQ⟩ := hQ
    exact jt_L_stepsFit_28 hd m x1 (0 : Int32) (0 : Int32) (0 : Int32) _ hO hQ
  · have hQ := hQ.2 c_16_2
    refine x_iconst (v := (1 : Int32)) d_L_stepsFit_19 (by decide) ?_
    refine x_goto (tgt := 24) d_L_stepsFit_20 (by decide) ?_
    refine x_istore_n (lv2 := [(3, .int (1 : Int32)), (2, .int (0 : Int32)), (1, .int x1), (0, .ref x)]) d_L_stepsFit_24 rfl (by decide) rfl ?_
    refine x_iconst (v := (0 : Int32)) d_L_stepsFit_25 (by decide) ?_
    refine x_istore (lv2 := [(4, .int (0 : Int32)), (3, .int (1 : Int32)), (2, .int (0 : Int32)), (1, .int x1), (0, .ref x)]) d_L_stepsFit_26 (by decide) rfl ?_
    refine x_sub [4, 3, 2, 1, 0] (lv2 := [(0, .ref x), (1, .int x1), (2, .int (0 : Int32)), (3, .int (1 : Int32)), (4, .int (0 : Int32))]) rfl ?_
    obtain ⟨m, hQ⟩ := hQ
    exact jt_L_stepsFit_28 hd m x1 (0 : Int32) (1 : Int32) (0 : Int32) _ hO hQ
def jp_L_valuesFit_278 (A : AB) (a0 : Int32) (a1 : Int32) (K : Int32 → Prop) (x_3 : Int32) (t_0 : Int32) : Prop := ((t_0 = (0 : Int32) → K (0 : Int32)) ∧ (¬ t_0 = (0 : Int32) → ((¬ (qr_slope A a0 (0 : Int32)) = (0 : Int32) → K (0 : Int32)) ∧ ((qr_slope A a0 (0 : Int32)) = (0 : Int32) → ((x_3 = (0 : Int32) → K (1 : Int32)) ∧ (¬ x_3 = (0 : Int32) → (((qr_diff A (qr_count A (0 : Int32))) < (0 : Int32) → K (0 : Int32)) ∧ (¬ (qr_diff A (qr_count A (0 : Int32))) < (0 : Int32) → K (1 : Int32)))))))))
set_option maxHeartbeats 4000000 in
theorem jt_L_valuesFit_278 {G : GX} {l : Launch} {d x : Nat} {A : AB} {a0 : Int32} {a1 : Int32} {K : Int32 → Prop} (hd : 8 ≤ d) (x_3 : Int32) (t_0 : Int32) (w : HW) (hO : OW w x A) (hQ : jp_L_valuesFit_278 A a0 a1 K x_3 t_0) : X G l m_L_valuesFit d 19 8122 0 0 278 [(0, .ref x), (1, .int a0), (3, .int x_3)] [.int t_0] w (fun r9 w2 => ∃ (r1 : Int32), r9 = some (.int r1) ∧ OW w2 x A ∧ K r1) := by
  refine x_istore (lv2 := [(8, .int t_0), (0, .ref x), (1, .int a0), (3, .int x_3)]) d_L_valuesFit_278 (by decide) rfl ?_
  refine x_iload 0 d_L_valuesFit_280 rfl ?_
  refine x_if_eq (tgt := 314) d_L_valuesFit_282 (by decide) (fun c_282_13 => ?_) (fun c_282_13 => ?_)
  · have hQ := hQ.1 c_282_13
    refine x_iconst (v := (0 : Int32)) d_L_valuesFit_314 (by decide) ?_
    exact x_iret (retB d_L_valuesFit_315 rfl rfl) ⟨_, rfl, hO, hQ⟩
  · have hQ := hQ.2 c_282_13
    refine x_aload_n 1 d_L_valuesFit_285 rfl rfl ?_
    refine x_iload_n 2 d_L_valuesFit_286 rfl rfl ?_
    refine x_iconst (v := (0 : Int32)) d_L_valuesFit_287 (by decide) ?_
    refine x_invV (rest := []) (d' := d - 1) (mc' := 0) (ms' := 0) [.int a0, .int (0 : Int32)] k_X9_slope lk_L_54 (OWx hO) rfl rfl rfl (Nat.le_of_ble_eq_true rfl) (by omega) (Nat.le_of_ble_eq_true rfl) (Nat.le_of_ble_eq_true rfl) d_L_valuesFit_288 ((sw_slope (d := d - 1) (by omega) hO).mono (fun r w2 hr => ?_))
    obtain ⟨rfl, hO⟩ := hr
    refine x_if_ne (tgt := 314) d_L_valuesFit_291 (by decide) (fun c_291_14 => ?_) (fun c_291_14 => ?_)
    · have hQ := hQ.1 c_291_14
      refine x_iconst (v := (0 : Int32)) d_L_valuesFit_314 (by decide) ?_
      exact x_iret (retB d_L_valuesFit_315 rfl rfl) ⟨_, rfl, hO, hQ⟩
    · have hQ := hQ.2 c_291_14
      refine x_iload_n 3 d_L_valuesFit_294 rfl rfl ?_
      refine x_if_eq (tgt := 310) d_L_valuesFit_295 (by decide) (fun c_295_15 => ?_) (fun c_295_15 => ?_)
      · have hQ := hQ.1 c_295_15
        refine x_iconst (v := (1 : Int32)) d_L_valuesFit_310 (by decide) ?_
        refine x_goto (tgt := 315) d_L_valuesFit_311 (by decide) ?_
        exact x_iret (retB d_L_valuesFit_315 rfl rfl) ⟨_, rfl, hO, hQ⟩
      · have hQ := hQ.2 c_295_15
        refine x_aload_n 1 d_L_valuesFit_298 rfl rfl ?_
        refine x_aload_n 1 d_L_valuesFit_299 rfl rfl ?_
        refine x_iconst (v := (0 : Int32)) d_L_valuesFit_300 (by decide) ?_
        refine x_invV (rest := [.ref x]) (d' := d - 1) (mc' := 0) (ms' := 0) [.int (0 : Int32)] k_X9_count lk_L_21 (OWx hO) rfl rfl rfl (Nat.le_of_ble_eq_true rfl) (by omega) (Nat.le_of_ble_eq_true rfl) (Nat.le_of_ble_eq_true rfl) d_L_valuesFit_301 ((sw_count (d := d - 1) (by omega) hO (h6 := by decide)).mono (fun r w2 hr => ?_))
        obtain ⟨rfl, hO⟩ := hr
        refine x_invV (rest := []) (d' := d - 1) (mc' := 19) (ms' := 8122) [.int (qr_count A (0 : Int32))] k_X9_differs lk_L_57 (OWx hO) rfl rfl rfl (Nat.le_of_ble_eq_true rfl) (by omega) (Nat.le_of_ble_eq_true rfl) (Nat.le_of_ble_eq_true rfl) d_L_valuesFit_304 ((sw_differs (d := d - 1) (by omega) hO).mono (fun r w2 hr => ?_))
        obtain ⟨rfl, hO⟩ := hr
        refine x_if_lt (tgt := 314) d_L_valuesFit_307 (by decide) (fun c_307_16 => ?_) (fun c_307_16 => ?_)
        · have hQ := hQ.1 c_307_16
          refine x_iconst (v := (0 : Int32)) d_L_valuesFit_314 (by decide) ?_
          exact x_iret (retB d_L_valuesFit_315 rfl rfl) ⟨_, rfl, hO, hQ⟩
        · have hQ := hQ.2 c_307_16
          refine x_iconst (v := (1 : Int32)) d_L_valuesFit_310 (by decide) ?_
          refine x_goto (tgt := 315) d_L_valuesFit_311 (by decide) ?_
          exact x_iret (retB d_L_valuesFit_315 rfl rfl) ⟨_, rfl, hO, hQ⟩
def jp_L_valuesFit_277 (A : AB) (a0 : Int32) (a1 : Int32) (K : Int32 → Prop) (x_3 : Int32) : Prop := jp_L_valuesFit_278 A a0 a1 K x_3 (0 : Int32)
set_option maxHeartbeats 4000000 in
theorem jt_L_valuesFit_277 {G : GX} {l : Launch} {d x : Nat} {A : AB} {a0 : Int32} {a1 : Int32} {K : Int32 → Prop} (hd : 8 ≤ d) (x_3 : Int32) (w : HW) (hO : OW w x A) (hQ : jp_L_valuesFit_277 A a0 a1 K x_3) : X G l m_L_valuesFit d 19 8122 0 0 277 [(0, .ref x), (1, .int a0), (3, .int x_3)] [] w (fun r9 w2 => ∃ (r1 : Int32), r9 = some (.int r1) ∧ OW w2 x A ∧ K r1) := by
  refine x_iconst (v := (0 : Int32)) d_L_valuesFit_277 (by decide) ?_
  refine x_sub [0, 1, 2] (lv2 := [(0, .ref x), (1, .int a0), (3, .int x_3)]) rfl ?_
  exact jt_L_valuesFit_278 hd x_3 (0 : Int32) _ hO hQ
def jp_L_valuesFit_273 (A : AB) (a0 : Int32) (a1 : Int32) (K : Int32 → Prop) (x_3 : Int32) : Prop := jp_L_valuesFit_278 A a0 a1 K x_3 (1 : Int32)
set_option maxHeartbeats 4000000 in
theorem jt_L_valuesFit_273 {G : GX} {l : Launch} {d x : Nat} {A : AB} {a0 : Int32} {a1 : Int32} {K : Int32 → Prop} (hd : 8 ≤ d) (x_3 : Int32) (w : HW) (hO : OW w x A) (hQ : jp_L_valuesFit_273 A a0 a1 K x_3) : X G l m_L_valuesFit d 19 8122 0 0 273 [(0, .ref x), (1, .int a0), (3, .int x_3)] [] w (fun r9 w2 => ∃ (r1 : Int32), r9 = some (.int r1) ∧ OW w2 x A ∧ K r1) := by
  refine x_iconst (v := (1 : Int32)) d_L_valuesFit_273 (by decide) ?_
  refine x_goto (tgt := 278) d_L_valuesFit_274 (by decide) ?_
  refine x_sub [0, 1, 2] (lv2 := [(0, .ref x), (1, .int a0), (3, .int x_3)]) rfl ?_
  exact jt_L_valuesFit_278 hd x_3 (1 : Int32) _ hO hQ
def jp_L_valuesFit_191 (A : AB) (a0 : Int32) (a1 : Int32) (K : Int32 → Prop) (x_3 : Int32) (x_8 : Int32) : Prop := wp_L_low (a1 >>> ((3 : Int32) &&& 31)) (x_3 + (1 : Int32)) (fun (r9 : Int32) => ∀ x10 : Int32, x10 = (qr_value A a0 r9) → ∀ x11 : Int32, x11 = (qr_cross A a0 x10 (1 : Int32)) → ((x_8 = (0 : Int32) → jp_L_valuesFit_277 A a0 a1 K x_3) ∧ (¬ x_8 = (0 : Int32) → ((¬ x11 = (-2000000004 : Int32) → (((qr_value A a0 x11) < x10 → jp_L_valuesFit_277 A a0 a1 K x_3) ∧ (¬ (qr_value A a0 x11) < x10 → ((x10 ≤ (qr_value A a0 (x11 - (1 : Int32))) → jp_L_valuesFit_277 A a0 a1 K x_3) ∧ (¬ x10 ≤ (qr_value A a0 (x11 - (1 : Int32))) → jp_L_valuesFit_273 A a0 a1 K x_3))))) ∧ (x11 = (-2000000004 : Int32) → ((x10 ≤ (qr_value A a0 (0 : Int32)) → jp_L_valuesFit_273 A a0 a1 K x_3) ∧ (¬ x10 ≤ (qr_value A a0 (0 : Int32)) → ((¬ x_3 = (0 : Int32) → jp_L_valuesFit_277 A a0 a1 K x_3) ∧ (x_3 = (0 : Int32) → jp_L_valuesFit_273 A a0 a1 K x_3)))))))))
set_option maxHeartbeats 4000000 in
theorem jt_L_valuesFit_191 {G : GX} {l : Launch} {d x : Nat} {A : AB} {a0 : Int32} {a1 : Int32} {K : Int32 → Prop} (hd : 8 ≤ d) (x_3 : Int32) (x_8 : Int32) (w : HW) (hO : OW w x A) (hQ : jp_L_valuesFit_191 A a0 a1 K x_3 x_8) : X G l m_L_valuesFit d 19 8122 0 0 191 [(0, .ref x), (1, .int a0), (2, .int a1), (3, .int x_3), (8, .int x_8)] [] w (fun r9 w2 => ∃ (r1 : Int32), r9 = some (.int r1) ∧ OW w2 x A ∧ K r1) := by
  refine x_aload_n 0 d_L_valuesFit_191 rfl rfl ?_
  refine x_iload_n 1 d_L_valuesFit_192 rfl rfl ?_
  refine x_iload_n 2 d_L_valuesFit_193 rfl rfl ?_
  refine x_iconst (v := (3 : Int32)) d_L_valuesFit_194 (by decide) ?_
  refine x_ishr d_L_valuesFit_195 ?_
  refine x_iload_n 3 d_L_valuesFit_196 rfl rfl ?_
  refine x_iconst (v := (1 : Int32)) d_L_valuesFit_197 (by decide) ?_
  refine x_iadd d_L_valuesFit_198 ?_
  refine x_invS (rest := [.int a0, .ref x]) (d' := d - 1) (mc' := 0) (ms' := 0) [.int (a1 >>> ((3 : Int32) &&& 31)), .int (x_3 + (1 : Int32))] k_L_low lk_L_9 rfl rfl (Nat.le_of_ble_eq_true rfl) (by omega) (Nat.le_of_ble_eq_true rfl) (Nat.le_of_ble_eq_true rfl) d_L_valuesFit_199 ((sp_L_low (d := d - 1) (by omega) hQ).mono (fun r w2 hr => ?_))
  obtain ⟨r9, rfl, rfl, hQ⟩ := hr
  refine x_invV (rest := []) (d' := d - 1) (mc' := 0) (ms' := 0) [.int a0, .int r9] k_X9_value lk_L_36 (OWx hO) rfl rfl rfl (Nat.le_of_ble_eq_true rfl) (by omega) (Nat.le_of_ble_eq_true rfl) (Nat.le_of_ble_eq_true rfl) d_L_valuesFit_202 ((sw_value (d := d - 1) (by omega) hO).mono (fun r w2 hr => ?_))
  obtain ⟨rfl, hO⟩ := hr
  refine x_topi (fun x10 e_x10 => ?_)
  have hQ := hQ x10 e_x10
  refine x_istore (lv2 := [(9, .int x10), (0, .ref x), (1, .int a0), (2, .int a1), (3, .int x_3), (8, .int x_8)]) d_L_valuesFit_205 (by decide) rfl ?_
  refine x_aload_n 1 d_L_valuesFit_207 rfl rfl ?_
  refine x_iload_n 2 d_L_valuesFit_208 rfl rfl ?_
  refine x_iload 0 d_L_valuesFit_209 rfl ?_
  refine x_iconst (v := (1 : Int32)) d_L_valuesFit_211 (by decide) ?_
  refine x_invV (rest := []) (d' := d - 1) (mc' := 0) (ms' := 0) [.int a0, .int x10, .int (1 : Int32)] k_X9_crossing lk_L_50 (OWx hO) rfl rfl rfl (Nat.le_of_ble_eq_true rfl) (by omega) (Nat.le_of_ble_eq_true rfl) (Nat.le_of_ble_eq_true rfl) d_L_valuesFit_212 ((sw_crossing (d := d - 1) (by omega) hO).mono (fun r w2 hr => ?_))
  obtain ⟨rfl, hO⟩ := hr
  refine x_topi (fun x11 e_x11 => ?_)
  have hQ := hQ x11 e_x11
  refine x_istore (lv2 := [(10, .int x11), (9, .int x10), (0, .ref x), (1, .int a0), (2, .int a1), (3, .int x_3), (8, .int x_8)]) d_L_valuesFit_215 (by decide) rfl ?_
  refine x_iload 6 d_L_valuesFit_217 rfl ?_
  refine x_if_eq (tgt := 277) d_L_valuesFit_219 (by decide) (fun c_219_12 => ?_) (fun c_219_12 => ?_)
  · have hQ := hQ.1 c_219_12
    refine x_sub [2, 3, 5] (lv2 := [(0, .ref x), (1, .int a0), (3, .int x_3)]) rfl ?_
    exact jt_L_valuesFit_277 hd x_3 _ hO hQ
  · have hQ := hQ.2 c_219_12
    refine x_iload 0 d_L_valuesFit_222 rfl ?_
    refine x_ldc (v := (-2000000004 : Int32)) kc_L_16 d_L_valuesFit_224 ?_
    refine x_icmp_ne (tgt := 247) d_L_valuesFit_226 (by decide) (fun c_226_17 => ?_) (fun c_226_17 => ?_)
    · have hQ := hQ.1 c_226_17
      refine x_aload_n 2 d_L_valuesFit_247 rfl rfl ?_
      refine x_iload_n 3 d_L_valuesFit_248 rfl rfl ?_
      refine x_iload 0 d_L_valuesFit_249 rfl ?_
      refine x_invV (rest := []) (d' := d - 1) (mc' := 0) (ms' := 0) [.int a0, .int x11] k_X9_value lk_L_36 (OWx hO) rfl rfl rfl (Nat.le_of_ble_eq_true rfl) (by omega) (Nat.le_of_ble_eq_true rfl) (Nat.le_of_ble_eq_true rfl) d_L_valuesFit_251 ((sw_value (d := d - 1) (by omega) hO).mono (fun r w2 hr => ?_))
      obtain ⟨rfl, hO⟩ := hr
      refine x_iload 1 d_L_valuesFit_254 rfl ?_
      refine x_icmp_lt (tgt := 277) d_L_valuesFit_256 (by decide) (fun c_256_18 => ?_) (fun c_256_18 => ?_)
      · have hQ := hQ.1 c_256_18
        refine x_sub [2, 3, 5] (lv2 := [(0, .ref x), (1, .int a0), (3, .int x_3)]) rfl ?_
        exact jt_L_valuesFit_277 hd x_3 _ hO hQ
      · have hQ := hQ.2 c_256_18
        refine x_aload_n 2 d_L_valuesFit_259 rfl rfl ?_
        refine x_iload_n 3 d_L_valuesFit_260 rfl rfl ?_
        refine x_iload 0 d_L_valuesFit_261 rfl ?_
        refine x_iconst (v := (1 : Int32)) d_L_valuesFit_263 (by decide) ?_
        refine x_isub d_L_valuesFit_264 ?_
        refine x_invV (rest := []) (d' := d - 1) (mc' := 0) (ms' := 0) [.int a0, .int (x11 - (1 : Int32))] k_X9_value lk_L_36 (OWx hO) rfl rfl rfl (Nat.le_of_ble_eq_true rfl) (by omega) (Nat.le_of_ble_eq_true rfl) (Nat.le_of_ble_eq_true rfl) d_L_valuesFit_265 ((sw_value (d := d - 1) (by omega) hO).mono (fun r w2 hr => ?_))
        obtain ⟨rfl, hO⟩ := hr
        refine x_iload 1 d_L_valuesFit_268 rfl ?_
        refine x_icmp_ge (tgt := 277) d_L_valuesFit_270 (by decide) (fun c_270_19 => ?_) (fun c_270_19 => ?_)
        · have hQ := hQ.1 c_270_19
          refine x_sub [2, 3, 5] (lv2 := [(0, .ref x), (1, .int a0), (3, .int x_3)]) rfl ?_
          exact jt_L_valuesFit_277 hd x_3 _ hO hQ
        · have hQ := hQ.2 c_270_19
          refine x_sub [2, 3, 5] (lv2 := [(0, .ref x), (1, .int a0), (3, .int x_3)]) rfl ?_
          exact jt_L_valuesFit_273 hd x_3 _ hO hQ
    · have hQ := hQ.2 c_226_17
      refine x_aload_n 2 d_L_valuesFit_229 rfl rfl ?_
      refine x_iload_n 3 d_L_valuesFit_230 rfl rfl ?_
      refine x_iconst (v := (0 : Int32)) d_L_valuesFit_231 (by decide) ?_
      refine x_invV (rest := []) (d' := d - 1) (mc' := 0) (ms' := 0) [.int a0, .int (0 : Int32)] k_X9_value lk_L_36 (OWx hO) rfl rfl rfl (Nat.le_of_ble_eq_true rfl) (by omega) (Nat.le_of_ble_eq_true rfl) (Nat.le_of_ble_eq_true rfl) d_L_valuesFit_232 ((sw_value (d := d - 1) (by omega) hO).mono (fun r w2 hr => ?_))
      obtain ⟨rfl, hO⟩ := hr
      refine x_iload 1 d_L_valuesFit_235 rfl ?_
      refine x_icmp_ge (tgt := 273) d_L_valuesFit_237 (by decide) (fun c_237_20 => ?_) (fun c_237_20 => ?_)
      · have hQ := hQ.1 c_237_20
        refine x_sub [2, 3, 5] (lv2 := [(0, .ref x), (1, .int a0), (3, .int x_3)]) rfl ?_
        exact jt_L_valuesFit_273 hd x_3 _ hO hQ
      · have hQ := hQ.2 c_237_20
        refine x_iload_n 5 d_L_valuesFit_240 rfl rfl ?_
        refine x_if_ne (tgt := 277) d_L_valuesFit_241 (by decide) (fun c_241_21 => ?_) (fun c_241_21 => ?_)
        · have hQ := hQ.1 c_241_21
          refine x_sub [2, 3, 5] (lv2 := [(0, .ref x), (1, .int a0), (3, .int x_3)]) rfl ?_
          exact jt_L_valuesFit_277 hd x_3 _ hO hQ
        · have hQ := hQ.2 c_241_21
          refine x_goto (tgt := 273) d_L_valuesFit_244 (by decide) ?_
          refine x_sub [2, 3, 5] (lv2 := [(0, .ref x), (1, .int a0), (3, .int x_3)]) rfl ?_
          exact jt_L_valuesFit_273 hd x_3 _ hO hQ
def jp_L_valuesFit_171 (A : AB) (a0 : Int32) (a1 : Int32) (K : Int32 → Prop) (k_142 : Int32 → Int32 → Int32 → Int32 → Int32 → Int32 → Prop) (x_3 : Int32) (x_4 : Int32) (x_5 : Int32) (x_6 : Int32) (x_9 : Int32) (t_0 : Int32) : Prop := ∀ x24 : Int32, x24 = x_9 + ((1 : Int32) + ((x_5 - x_4) / (9 : Int32))) → k_142 x_3 x_4 x_5 x_6 t_0 x24
set_option maxHeartbeats 4000000 in
theorem jt_L_valuesFit_171 {G : GX} {l : Launch} {d x : Nat} {A : AB} {a0 : Int32} {a1 : Int32} {K : Int32 → Prop} {k_142 : Int32 → Int32 → Int32 → Int32 → Int32 → Int32 → Prop} (hd : 8 ≤ d) (hk_142 : ∀ (x_3 : Int32) (x_4 : Int32) (x_5 : Int32) (x_6 : Int32) (x_8 : Int32) (x_9 : Int32) (w : HW), OW w x A → k_142 x_3 x_4 x_5 x_6 x_8 x_9 → X G l m_L_valuesFit d 19 8122 0 0 142 [(0, .ref x), (1, .int a0), (2, .int a1), (3, .int x_3), (4, .int x_4), (5, .int x_5), (6, .int x_6), (8, .int x_8), (9, .int x_9)] [] w (fun r9 w2 => ∃ (r1 : Int32), r9 = some (.int r1) ∧ OW w2 x A ∧ K r1)) (x_3 : Int32) (x_4 : Int32) (x_5 : Int32) (x_6 : Int32) (x_9 : Int32) (t_0 : Int32) (w : HW) (hO : OW w x A) (hQ : jp_L_valuesFit_171 A a0 a1 K k_142 x_3 x_4 x_5 x_6 x_9 t_0) : X G l m_L_valuesFit d 19 8122 0 0 171 [(0, .ref x), (1, .int a0), (2, .int a1), (3, .int x_3), (4, .int x_4), (5, .int x_5), (6, .int x_6), (9, .int x_9)] [.int t_0] w (fun r9 w2 => ∃ (r1 : Int32), r9 = some (.int r1) ∧ OW w2 x A ∧ K r1) := by
  refine x_istore (lv2 := [(8, .int t_0), (0, .ref x), (1, .int a0), (2, .int a1), (3, .int x_3), (4, .int x_4), (5, .int x_5), (6, .int x_6), (9, .int x_9)]) d_L_valuesFit_171 (by decide) rfl ?_
  refine x_iload 8 d_L_valuesFit_173 rfl ?_
  refine x_iconst (v := (1 : Int32)) d_L_valuesFit_175 (by decide) ?_
  refine x_iload 6 d_L_valuesFit_176 rfl ?_
  refine x_iload 5 d_L_valuesFit_178 rfl ?_
  refine x_isub d_L_valuesFit_180 ?_
  refine x_bipush (v := (9 : Int32)) d_L_valuesFit_181 (by decide) ?_
  refine x_idiv d_L_valuesFit_183 (by decide) ?_
  refine x_iadd d_L_valuesFit_184 ?_
  refine x_iadd d_L_valuesFit_185 ?_
  refine x_topi (fun x24 e_x24 => ?_)
  have hQ := hQ x24 e_x24
  refine x_istore (lv2 := [(9, .int x24), (8, .int t_0), (0, .ref x), (1, .int a0), (2, .int a1), (3, .int x_3), (4, .int x_4), (5, .int x_5), (6, .int x_6)]) d_L_valuesFit_186 (by decide) rfl ?_
  refine x_goto (tgt := 142) d_L_valuesFit_188 (by decide) ?_
  refine x_sub [2, 3, 4, 5, 6, 7, 8, 1, 0] (lv2 := [(0, .ref x), (1, .int a0), (2, .int a1), (3, .int x_3), (4, .int x_4), (5, .int x_5), (6, .int x_6), (8, .int t_0), (9, .int x24)]) rfl ?_
  exact hk_142 x_3 x_4 x_5 x_6 t_0 x24 _ hO hQ
def lp_L_valuesFit_142 (A : AB) (a0 : Int32) (a1 : Int32) (K : Int32 → Prop) : Nat → Int32 → Int32 → Int32 → Int32 → Int32 → Int32 → Prop
  | 0, _, _, _, _, _, _ => False
  | n + 1, x_3, x_4, x_5, x_6, x_8, x_9 => ((x_5 < x_9 → jp_L_valuesFit_191 A a0 a1 K x_3 x_8) ∧ (¬ x_5 < x_9 → ((x_8 = (0 : Int32) → jp_L_valuesFit_191 A a0 a1 K x_3 x_8) ∧ (¬ x_8 = (0 : Int32) → ((x_6 < (qr_value A a0 x_9) → jp_L_valuesFit_171 A a0 a1 K (fun v0 v1 v2 v3 v4 v5 => lp_L_valuesFit_142 A a0 a1 K n v0 v1 v2 v3 v4 v5) x_3 x_4 x_5 x_6 x_9 (0 : Int32)) ∧ (¬ x_6 < (qr_value A a0 x_9) → jp_L_valuesFit_171 A a0 a1 K (fun v0 v1 v2 v3 v4 v5 => lp_L_valuesFit_142 A a0 a1 K n v0 v1 v2 v3 v4 v5) x_3 x_4 x_5 x_6 x_9 (1 : Int32)))))))
set_option maxHeartbeats 4000000 in
theorem jt_L_valuesFit_142 {G : GX} {l : Launch} {d x : Nat} {A : AB} {a0 : Int32} {a1 : Int32} {K : Int32 → Prop} (hd : 8 ≤ d) : ∀ (n : Nat) (x_3 : Int32) (x_4 : Int32) (x_5 : Int32) (x_6 : Int32) (x_8 : Int32) (x_9 : Int32) (w : HW), OW w x A → lp_L_valuesFit_142 A a0 a1 K n x_3 x_4 x_5 x_6 x_8 x_9 → X G l m_L_valuesFit d 19 8122 0 0 142 [(0, .ref x), (1, .int a0), (2, .int a1), (3, .int x_3), (4, .int x_4), (5, .int x_5), (6, .int x_6), (8, .int x_8), (9, .int x_9)] [] w (fun r9 w2 => ∃ (r1 : Int32), r9 = some (.int r1) ∧ OW w2 x A ∧ K r1) := by
  intro n
  induction n with
  | zero =>
    intro x_3 x_4 x_5 x_6 x_8 x_9 w hO hQ
    exact hQ.elim
  | succ n ih =>
    intro x_3 x_4 x_5 x_6 x_8 x_9 w hO hQ
    refine x_iload 8 d_L_valuesFit_142 rfl ?_
    refine x_iload 5 d_L_valuesFit_144 rfl ?_
    refine x_icmp_gt (tgt := 191) d_L_valuesFit_146 (by decide) (fun c_146_8 => ?_) (fun c_146_8 => ?_)
    · have hQ := hQ.1 c_146_8
      refine x_sub [0, 1, 2, 3, 7] (lv2 := [(0, .ref x), (1, .int a0), (2, .int a1), (3, .int x_3), (8, .int x_8)]) rfl ?_
      exact jt_L_valuesFit_191 hd x_3 x_8 _ hO hQ
    · have hQ := hQ.2 c_146_8
      refine x_iload 7 d_L_valuesFit_149 rfl ?_
      refine x_if_eq (tgt := 191) d_L_valuesFit_151 (by decide) (fun c_151_22 => ?_) (fun c_151_22 => ?_)
      · have hQ := hQ.1 c_151_22
        refine x_sub [0, 1, 2, 3, 7] (lv2 := [(0, .ref x), (1, .int a0), (2, .int a1), (3, .int x_3), (8, .int x_8)]) rfl ?_
        exact jt_L_valuesFit_191 hd x_3 x_8 _ hO hQ
      · have hQ := hQ.2 c_151_22
        refine x_aload_n 0 d_L_valuesFit_154 rfl rfl ?_
        refine x_iload_n 1 d_L_valuesFit_155 rfl rfl ?_
        refine x_iload 8 d_L_valuesFit_156 rfl ?_
        refine x_invV (rest := []) (d' := d - 1) (mc' := 0) (ms' := 0) [.int a0, .int x_9] k_X9_value lk_L_36 (OWx hO) rfl rfl rfl (Nat.le_of_ble_eq_true rfl) (by omega) (Nat.le_of_ble_eq_true rfl) (Nat.le_of_ble_eq_true rfl) d_L_valuesFit_158 ((sw_value (d := d - 1) (by omega) hO).mono (fun r w2 hr => ?_))
        obtain ⟨rfl, hO⟩ := hr
        refine x_iload 6 d_L_valuesFit_161 rfl ?_
        refine x_icmp_gt (tgt := 170) d_L_valuesFit_163 (by decide) (fun c_163_23 => ?_) (fun c_163_23 => ?_)
        · have hQ := hQ.1 c_163_23
          refine x_iconst (v := (0 : Int32)) d_L_valuesFit_170 (by decide) ?_
          refine x_sub [0, 1, 2, 3, 4, 5, 6, 8] (lv2 := [(0, .ref x), (1, .int a0), (2, .int a1), (3, .int x_3), (4, .int x_4), (5, .int x_5), (6, .int x_6), (9, .int x_9)]) rfl ?_
          exact jt_L_valuesFit_171 hd ih x_3 x_4 x_5 x_6 x_9 (0 : Int32) _ hO hQ
        · have hQ := hQ.2 c_163_23
          refine x_iconst (v := (1 : Int32)) d_L_valuesFit_166 (by decide) ?_
          refine x_goto (tgt := 171) d_L_valuesFit_167 (by decide) ?_
          refine x_sub [0, 1, 2, 3, 4, 5, 6, 8] (lv2 := [(0, .ref x), (1, .int a0), (2, .int a1), (3, .int x_3), (4, .int x_4), (5, .int x_5), (6, .int x_6), (9, .int x_9)]) rfl ?_
          exact jt_L_valuesFit_171 hd ih x_3 x_4 x_5 x_6 x_9 (1 : Int32) _ hO hQ
def jp_L_valuesFit_135 (A : AB) (a0 : Int32) (a1 : Int32) (K : Int32 → Prop) (x_3 : Int32) (x_4 : Int32) (x_5 : Int32) (x_6 : Int32) : Prop := ∃ m : Nat, lp_L_valuesFit_142 A a0 a1 K m x_3 x_4 x_5 x_6 (0 : Int32) x_4
set_option maxHeartbeats 4000000 in
theorem jt_L_valuesFit_135 {G : GX} {l : Launch} {d x : Nat} {A : AB} {a0 : Int32} {a1 : Int32} {K : Int32 → Prop} (hd : 8 ≤ d) (x_3 : Int32) (x_4 : Int32) (x_5 : Int32) (x_6 : Int32) (w : HW) (hO : OW w x A) (hQ : jp_L_valuesFit_135 A a0 a1 K x_3 x_4 x_5 x_6) : X G l m_L_valuesFit d 19 8122 0 0 135 [(0, .ref x), (1, .int a0), (2, .int a1), (3, .int x_3), (4, .int x_4), (5, .int x_5), (6, .int x_6)] [] w (fun r9 w2 => ∃ (r1 : Int32), r9 = some (.int r1) ∧ OW w2 x A ∧ K r1) := by
  refine x_iconst (v := (0 : Int32)) d_L_valuesFit_135 (by decide) ?_
  refine x_istore (lv2 := [(8, .int (0 : Int32)), (0, .ref x), (1, .int a0), (2, .int a1), (3, .int x_3), (4, .int x_4), (5, .int x_5), (6, .int x_6)]) d_L_valuesFit_136 (by decide) rfl ?_
  refine x_iload 5 d_L_valuesFit_138 rfl ?_
  refine x_istore (lv2 := [(9, .int x_4), (8, .int (0 : Int32)), (0, .ref x), (1, .int a0), (2, .int a1), (3, .int x_3), (4, .int x_4), (5, .int x_5), (6, .int x_6)]) d_L_valuesFit_140 (by decide) rfl ?_
  refine x_sub [2, 3, 4, 5, 6, 7, 8, 1, 0] (lv2 := [(0, .ref x), (1, .int a0), (2, .int a1), (3, .int x_3), (4, .int x_4), (5, .int x_5), (6, .int x_6), (8, .int (0 : Int32)), (9, .int x_4)]) rfl ?_
  obtain ⟨m, hQ⟩ := hQ
  exact jt_L_valuesFit_142 hd m x_3 x_4 x_5 x_6 (0 : Int32) x_4 _ hO hQ
def jp_L_valuesFit_131 (A : AB) (a0 : Int32) (a1 : Int32) (K : Int32 → Prop) (x_3 : Int32) (x_4 : Int32) (x_5 : Int32) (x_6 : Int32) : Prop := ∃ m : Nat, lp_L_valuesFit_142 A a0 a1 K m x_3 x_4 x_5 x_6 (1 : Int32) x_4
set_option maxHeartbeats 4000000 in
theorem jt_L_valuesFit_131 {G : GX} {l : Launch} {d x : Nat} {A : AB} {a0 : Int32} {a1 : Int32} {K : Int32 → Prop} (hd : 8 ≤ d) (x_3 : Int32) (x_4 : Int32) (x_5 : Int32) (x_6 : Int32) (w : HW) (hO : OW w x A) (hQ : jp_L_valuesFit_131 A a0 a1 K x_3 x_4 x_5 x_6) : X G l m_L_valuesFit d 19 8122 0 0 131 [(0, .ref x), (1, .int a0), (2, .int a1), (3, .int x_3), (4, .int x_4), (5, .int x_5), (6, .int x_6)] [] w (fun r9 w2 => ∃ (r1 : Int32), r9 = some (.int r1) ∧ OW w2 x A ∧ K r1) := by
  refine x_iconst (v := (1 : Int32)) d_L_valuesFit_131 (by decide) ?_
  refine x_goto (tgt := 136) d_L_valuesFit_132 (by decide) ?_
  refine x_istore (lv2 := [(8, .int (1 : Int32)), (0, .ref x), (1, .int a0), (2, .int a1), (3, .int x_3), (4, .int x_4), (5, .int x_5), (6, .int x_6)]) d_L_valuesFit_136 (by decide) rfl ?_
  refine x_iload 5 d_L_valuesFit_138 rfl ?_
  refine x_istore (lv2 := [(9, .int x_4), (8, .int (1 : Int32)), (0, .ref x), (1, .int a0), (2, .int a1), (3, .int x_3), (4, .int x_4), (5, .int x_5), (6, .int x_6)]) d_L_valuesFit_140 (by decide) rfl ?_
  refine x_sub [2, 3, 4, 5, 6, 7, 8, 1, 0] (lv2 := [(0, .ref x), (1, .int a0), (2, .int a1), (3, .int x_3), (4, .int x_4), (5, .int x_5), (6, .int x_6), (8, .int (1 : Int32)), (9, .int x_4)]) rfl ?_
  obtain ⟨m, hQ⟩ := hQ
  exact jt_L_valuesFit_142 hd m x_3 x_4 x_5 x_6 (1 : Int32) x_4 _ hO hQ
def jp_L_valuesFit_107 (A : AB) (a0 : Int32) (a1 : Int32) (K : Int32 → Prop) (x_3 : Int32) (x_4 : Int32) (x_5 : Int32) (x_6 : Int32) (x_7 : Int32) (t_0 : Int32) (t_1 : Int32) : Prop := ((¬ t_1 = t_0 → jp_L_valuesFit_135 A a0 a1 K x_3 x_4 x_5 x_6) ∧ (t_1 = t_0 → ((x_7 = x_4 → jp_L_valuesFit_131 A a0 a1 K x_3 x_4 x_5 x_6) ∧ (¬ x_7 = x_4 → ((x_6 ≤ (qr_value A a0 (x_7 - (1 : Int32))) → jp_L_valuesFit_135 A a0 a1 K x_3 x_4 x_5 x_6) ∧ (¬ x_6 ≤ (qr_value A a0 (x_7 - (1 : Int32))) → jp_L_valuesFit_131 A a0 a1 K x_3 x_4 x_5 x_6))))))
set_option maxHeartbeats 4000000 in
theorem jt_L_valuesFit_107 {G : GX} {l : Launch} {d x : Nat} {A : AB} {a0 : Int32} {a1 : Int32} {K : Int32 → Prop} (hd : 8 ≤ d) (x_3 : Int32) (x_4 : Int32) (x_5 : Int32) (x_6 : Int32) (x_7 : Int32) (t_0 : Int32) (t_1 : Int32) (w : HW) (hO : OW w x A) (hQ : jp_L_valuesFit_107 A a0 a1 K x_3 x_4 x_5 x_6 x_7 t_0 t_1) : X G l m_L_valuesFit d 19 8122 0 0 107 [(0, .ref x), (1, .int a0), (2, .int a1), (3, .int x_3), (4, .int x_4), (5, .int x_5), (6, .int x_6), (7, .int x_7)] [.int t_0, .int t_1] w (fun r9 w2 => ∃ (r1 : Int32), r9 = some (.int r1) ∧ OW w2 x A ∧ K r1) := by
  refine x_icmp_ne (tgt := 135) d_L_valuesFit_107 (by decide) (fun c_107_28 => ?_) (fun c_107_28 => ?_)
  · have hQ := hQ.1 c_107_28
    refine x_sub [0, 1, 2, 3, 4, 5, 6] (lv2 := [(0, .ref x), (1, .int a0), (2, .int a1), (3, .int x_3), (4, .int x_4), (5, .int x_5), (6, .int x_6)]) rfl ?_
    exact jt_L_valuesFit_135 hd x_3 x_4 x_5 x_6 _ hO hQ
  · have hQ := hQ.2 c_107_28
    refine x_iload 7 d_L_valuesFit_110 rfl ?_
    refine x_iload 4 d_L_valuesFit_112 rfl ?_
    refine x_icmp_eq (tgt := 131) d_L_valuesFit_114 (by decide) (fun c_114_29 => ?_) (fun c_114_29 => ?_)
    · have hQ := hQ.1 c_114_29
      refine x_sub [0, 1, 2, 3, 4, 5, 6] (lv2 := [(0, .ref x), (1, .int a0), (2, .int a1), (3, .int x_3), (4, .int x_4), (5, .int x_5), (6, .int x_6)]) rfl ?_
      exact jt_L_valuesFit_131 hd x_3 x_4 x_5 x_6 _ hO hQ
    · have hQ := hQ.2 c_114_29
      refine x_aload_n 0 d_L_valuesFit_117 rfl rfl ?_
      refine x_iload_n 1 d_L_valuesFit_118 rfl rfl ?_
      refine x_iload 7 d_L_valuesFit_119 rfl ?_
      refine x_iconst (v := (1 : Int32)) d_L_valuesFit_121 (by decide) ?_
      refine x_isub d_L_valuesFit_122 ?_
      refine x_invV (rest := []) (d' := d - 1) (mc' := 0) (ms' := 0) [.int a0, .int (x_7 - (1 : Int32))] k_X9_value lk_L_36 (OWx hO) rfl rfl rfl (Nat.le_of_ble_eq_true rfl) (by omega) (Nat.le_of_ble_eq_true rfl) (Nat.le_of_ble_eq_true rfl) d_L_valuesFit_123 ((sw_value (d := d - 1) (by omega) hO).mono (fun r w2 hr => ?_))
      obtain ⟨rfl, hO⟩ := hr
      refine x_iload 6 d_L_valuesFit_126 rfl ?_
      refine x_icmp_ge (tgt := 135) d_L_valuesFit_128 (by decide) (fun c_128_30 => ?_) (fun c_128_30 => ?_)
      · have hQ := hQ.1 c_128_30
        refine x_sub [0, 1, 2, 3, 4, 5, 6] (lv2 := [(0, .ref x), (1, .int a0), (2, .int a1), (3, .int x_3), (4, .int x_4), (5, .int x_5), (6, .int x_6)]) rfl ?_
        exact jt_L_valuesFit_135 hd x_3 x_4 x_5 x_6 _ hO hQ
      · have hQ := hQ.2 c_128_30
        refine x_sub [0, 1, 2, 3, 4, 5, 6] (lv2 := [(0, .ref x), (1, .int a0), (2, .int a1), (3, .int x_3), (4, .int x_4), (5, .int x_5), (6, .int x_6)]) rfl ?_
        exact jt_L_valuesFit_131 hd x_3 x_4 x_5 x_6 _ hO hQ
def wp_L_valuesFit (A : AB) (a0 : Int32) (a1 : Int32) (K : Int32 → Prop) : Prop := ∀ x1 : Int32, x1 = (qr_count A (3 : Int32)) → wp_L_low a1 (x1 + (1 : Int32)) (fun (r2 : Int32) => wp_L_low (a1 >>> ((9 : Int32) &&& 31)) (((x1 - r2) / (4 : Int32)) + (1 : Int32)) (fun (r3 : Int32) => ∀ x4 : Int32, x4 = r2 + r3 → ∀ x5 : Int32, x5 = (qr_great A a0 r2 x4 (0 : Int32)) → ∀ x6 : Int32, x6 = (qr_great A a0 r2 x4 (1 : Int32)) → ((x6 < r2 → jp_L_valuesFit_135 A a0 a1 K x1 r2 x4 x5) ∧ (¬ x6 < r2 → ((x4 < x6 → jp_L_valuesFit_135 A a0 a1 K x1 r2 x4 x5) ∧ (¬ x4 < x6 → ((¬ (qr_value A a0 x6) = x5 → jp_L_valuesFit_135 A a0 a1 K x1 r2 x4 x5) ∧ ((qr_value A a0 x6) = x5 → ((¬ x1 = (8000 : Int32) → jp_L_valuesFit_107 A a0 a1 K x1 r2 x4 x5 x6 (-2000000004 : Int32) (qr_value A a0 (x1 + (1 : Int32)))) ∧ (x1 = (8000 : Int32) → jp_L_valuesFit_107 A a0 a1 K x1 r2 x4 x5 x6 (-2000000001 : Int32) (qr_value A a0 (x1 + (1 : Int32)))))))))))))
set_option maxHeartbeats 4000000 in
theorem sp_L_valuesFit {G : GX} {l : Launch} {d x : Nat} {w : HW} {A : AB} {a0 : Int32} {a1 : Int32} {K : Int32 → Prop} (hd : 8 ≤ d) (hO : OW w x A) (hQ : wp_L_valuesFit A a0 a1 K) : Sp G l m_L_valuesFit d 19 8122 [.ref x, .int a0, .int a1] w (fun r9 w2 => ∃ (r1 : Int32), r9 = some (.int r1) ∧ OW w2 x A ∧ K r1) := by
  refine Sp.ofX k_L_valuesFit.1.1 (Nat.le_of_ble_eq_true rfl) ?_
  refine X.lv (lv2 := [(0, .ref x), (1, .int a0), (2, .int a1)]) rfl ?_
  refine x_aload_n 0 d_L_valuesFit_0 rfl rfl ?_
  refine x_iconst (v := (3 : Int32)) d_L_valuesFit_1 (by decide) ?_
  refine x_invV (rest := []) (d' := d - 1) (mc' := 0) (ms' := 0) [.int (3 : Int32)] k_X9_count lk_L_21 (OWx hO) rfl rfl rfl (Nat.le_of_ble_eq_true rfl) (by omega) (Nat.le_of_ble_eq_true rfl) (Nat.le_of_ble_eq_true rfl) d_L_valuesFit_2 ((sw_count (d := d - 1) (by omega) hO (h6 := by decide)).mono (fun r w2 hr => ?_))
  obtain ⟨rfl, hO⟩ := hr
  refine x_topi (fun x1 e_x1 => ?_)
  have hQ := hQ x1 e_x1
  refine x_istore_n (lv2 := [(3, .int x1), (0, .ref x), (1, .int a0), (2, .int a1)]) d_L_valuesFit_5 rfl (by decide) rfl ?_
  refine x_iload_n 3 d_L_valuesFit_6 rfl rfl ?_
  refine x_iload_n 0 d_L_valuesFit_7 rfl rfl ?_
  refine x_iconst (v := (1 : Int32)) d_L_valuesFit_8 (by decide) ?_
  refine x_iadd d_L_valuesFit_9 ?_
  refine x_invS (rest := []) (d' := d - 1) (mc' := 0) (ms' := 0) [.int a1, .int (x1 + (1 : Int32))] k_L_low lk_L_9 rfl rfl (Nat.le_of_ble_eq_true rfl) (by omega) (Nat.le_of_ble_eq_true rfl) (Nat.le_of_ble_eq_true rfl) d_L_valuesFit_10 ((sp_L_low (d := d - 1) (by omega) hQ).mono (fun r w2 hr => ?_))
  obtain ⟨r2, rfl, rfl, hQ⟩ := hr
  refine x_istore (lv2 := [(4, .int r2), (3, .int x1), (0, .ref x), (1, .int a0), (2, .int a1)]) d_L_valuesFit_13 (by decide) rfl ?_
  refine x_iload 0 d_L_valuesFit_15 rfl ?_
  refine x_iload_n 4 d_L_valuesFit_17 rfl rfl ?_
  refine x_bipush (v := (9 : Int32)) d_L_valuesFit_18 (by decide) ?_
  refine x_ishr d_L_valuesFit_20 ?_
  refine x_iload_n 1 d_L_valuesFit_21 rfl rfl ?_
  refine x_iload 0 d_L_valuesFit_22 rfl ?_
  refine x_isub d_L_valuesFit_24 ?_
  refine x_iconst (v := (4 : Int32)) d_L_valuesFit_25 (by decide) ?_
  refine x_idiv d_L_valuesFit_26 (by decide) ?_
  refine x_iconst (v := (1 : Int32)) d_L_valuesFit_27 (by decide) ?_
  refine x_iadd d_L_valuesFit_28 ?_
  refine x_invS (rest := [.int r2]) (d' := d - 1) (mc' := 0) (ms' := 0) [.int (a1 >>> ((9 : Int32) &&& 31)), .int (((x1 - r2) / (4 : Int32)) + (1 : Int32))] k_L_low lk_L_9 rfl rfl (Nat.le_of_ble_eq_true rfl) (by omega) (Nat.le_of_ble_eq_true rfl) (Nat.le_of_ble_eq_true rfl) d_L_valuesFit_29 ((sp_L_low (d := d - 1) (by omega) hQ).mono (fun r w2 hr => ?_))
  obtain ⟨r3, rfl, rfl, hQ⟩ := hr
  refine x_iadd d_L_valuesFit_32 ?_
  refine x_topi (fun x4 e_x4 => ?_)
  have hQ := hQ x4 e_x4
  refine x_istore (lv2 := [(5, .int x4), (4, .int r2), (3, .int x1), (0, .ref x), (1, .int a0), (2, .int a1)]) d_L_valuesFit_33 (by decide) rfl ?_
  refine x_aload_n 3 d_L_valuesFit_35 rfl rfl ?_
  refine x_iload_n 4 d_L_valuesFit_36 rfl rfl ?_
  refine x_iload 1 d_L_valuesFit_37 rfl ?_
  refine x_iload 0 d_L_valuesFit_39 rfl ?_
  refine x_iconst (v := (0 : Int32)) d_L_valuesFit_41 (by decide) ?_
  refine x_invV (rest := []) (d' := d - 1) (mc' := 0) (ms' := 0) [.int a0, .int r2, .int x4, .int (0 : Int32)] k_X9_greatest lk_L_46 (OWx hO) rfl rfl rfl (Nat.le_of_ble_eq_true rfl) (by omega) (Nat.le_of_ble_eq_true rfl) (Nat.le_of_ble_eq_true rfl) d_L_valuesFit_42 ((sw_greatest (d := d - 1) (by omega) hO).mono (fun r w2 hr => ?_))
  obtain ⟨rfl, hO⟩ := hr
  refine x_topi (fun x5 e_x5 => ?_)
  have hQ := hQ x5 e_x5
  refine x_istore (lv2 := [(6, .int x5), (5, .int x4), (4, .int r2), (3, .int x1), (0, .ref x), (1, .int a0), (2, .int a1)]) d_L_valuesFit_45 (by decide) rfl ?_
  refine x_aload_n 4 d_L_valuesFit_47 rfl rfl ?_
  refine x_iload_n 5 d_L_valuesFit_48 rfl rfl ?_
  refine x_iload 2 d_L_valuesFit_49 rfl ?_
  refine x_iload 1 d_L_valuesFit_51 rfl ?_
  refine x_iconst (v := (1 : Int32)) d_L_valuesFit_53 (by decide) ?_
  refine x_invV (rest := []) (d' := d - 1) (mc' := 0) (ms' := 0) [.int a0, .int r2, .int x4, .int (1 : Int32)] k_X9_greatest lk_L_46 (OWx hO) rfl rfl rfl (Nat.le_of_ble_eq_true rfl) (by omega) (Nat.le_of_ble_eq_true rfl) (Nat.le_of_ble_eq_true rfl) d_L_valuesFit_54 ((sw_greatest (d := d - 1) (by omega) hO).mono (fun r w2 hr => ?_))
  obtain ⟨rfl, hO⟩ := hr
  refine x_topi (fun x6 e_x6 => ?_)
  have hQ := hQ x6 e_x6
  refine x_istore (lv2 := [(7, .int x6), (6, .int x5), (5, .int x4), (4, .int r2), (3, .int x1), (0, .ref x), (1, .int a0), (2, .int a1)]) d_L_valuesFit_57 (by decide) rfl ?_
  refine x_iload 0 d_L_valuesFit_59 rfl ?_
  refine x_iload 3 d_L_valuesFit_61 rfl ?_
  refine x_icmp_lt (tgt := 135) d_L_valuesFit_63 (by decide) (fun c_63_7 => ?_) (fun c_63_7 => ?_)
  · have hQ := hQ.1 c_63_7
    refine x_sub [5, 6, 7, 4, 3, 2, 1] (lv2 := [(0, .ref x), (1, .int a0), (2, .int a1), (3, .int x1), (4, .int r2), (5, .int x4), (6, .int x5)]) rfl ?_
    exact jt_L_valuesFit_135 hd x1 r2 x4 x5 _ hO hQ
  · have hQ := hQ.2 c_63_7
    refine x_iload 0 d_L_valuesFit_66 rfl ?_
    refine x_iload 2 d_L_valuesFit_68 rfl ?_
    refine x_icmp_gt (tgt := 135) d_L_valuesFit_70 (by decide) (fun c_70_25 => ?_) (fun c_70_25 => ?_)
    · have hQ := hQ.1 c_70_25
      refine x_sub [5, 6, 7, 4, 3, 2, 1] (lv2 := [(0, .ref x), (1, .int a0), (2, .int a1), (3, .int x1), (4, .int r2), (5, .int x4), (6, .int x5)]) rfl ?_
      exact jt_L_valuesFit_135 hd x1 r2 x4 x5 _ hO hQ
    · have hQ := hQ.2 c_70_25
      refine x_aload_n 5 d_L_valuesFit_73 rfl rfl ?_
      refine x_iload_n 6 d_L_valuesFit_74 rfl rfl ?_
      refine x_iload 0 d_L_valuesFit_75 rfl ?_
      refine x_invV (rest := []) (d' := d - 1) (mc' := 0) (ms' := 0) [.int a0, .int x6] k_X9_value lk_L_36 (OWx hO) rfl rfl rfl (Nat.le_of_ble_eq_true rfl) (by omega) (Nat.le_of_ble_eq_true rfl) (Nat.le_of_ble_eq_true rfl) d_L_valuesFit_77 ((sw_value (d := d - 1) (by omega) hO).mono (fun r w2 hr => ?_))
      obtain ⟨rfl, hO⟩ := hr
      refine x_iload 1 d_L_valuesFit_80 rfl ?_
      refine x_icmp_ne (tgt := 135) d_L_valuesFit_82 (by decide) (fun c_82_26 => ?_) (fun c_82_26 => ?_)
      · have hQ := hQ.1 c_82_26
        refine x_sub [5, 6, 7, 4, 3, 2, 1] (lv2 := [(0, .ref x), (1, .int a0), (2, .int a1), (3, .int x1), (4, .int r2), (5, .int x4), (6, .int x5)]) rfl ?_
        exact jt_L_valuesFit_135 hd x1 r2 x4 x5 _ hO hQ
      · have hQ := hQ.2 c_82_26
        refine x_aload_n 5 d_L_valuesFit_85 rfl rfl ?_
        refine x_iload_n 6 d_L_valuesFit_86 rfl rfl ?_
        refine x_iload_n 4 d_L_valuesFit_87 rfl rfl ?_
        refine x_iconst (v := (1 : Int32)) d_L_valuesFit_88 (by decide) ?_
        refine x_iadd d_L_valuesFit_89 ?_
        refine x_invV (rest := []) (d' := d - 1) (mc' := 0) (ms' := 0) [.int a0, .int (x1 + (1 : Int32))] k_X9_value lk_L_36 (OWx hO) rfl rfl rfl (Nat.le_of_ble_eq_true rfl) (by omega) (Nat.le_of_ble_eq_true rfl) (Nat.le_of_ble_eq_true rfl) d_L_valuesFit_90 ((sw_value (d := d - 1) (by omega) hO).mono (fun r w2 hr => ?_))
        obtain ⟨rfl, hO⟩ := hr
        refine x_iload_n 4 d_L_valuesFit_93 rfl rfl ?_
        refine x_sipush (v := (8000 : Int32)) d_L_valuesFit_94 (by decide) ?_
        refine x_icmp_ne (tgt := 105) d_L_valuesFit_97 (by decide) (fun c_97_27 => ?_) (fun c_97_27 => ?_)
        · have hQ := hQ.1 c_97_27
          refine x_ldc (v := (-2000000004 : Int32)) kc_L_16 d_L_valuesFit_105 ?_
          refine x_sub [5, 6, 7, 4, 3, 2, 1, 0] (lv2 := [(0, .ref x), (1, .int a0), (2, .int a1), (3, .int x1), (4, .int r2), (5, .int x4), (6, .int x5), (7, .int x6)]) rfl ?_
          exact jt_L_valuesFit_107 hd x1 r2 x4 x5 x6 (-2000000004 : Int32) (qr_value A a0 (x1 + (1 : Int32))) _ hO hQ
        · have hQ := hQ.2 c_97_27
          refine x_ldc (v := (-2000000001 : Int32)) kc_L_15 d_L_valuesFit_100 ?_
          refine x_goto (tgt := 107) d_L_valuesFit_102 (by decide) ?_
          refine x_sub [5, 6, 7, 4, 3, 2, 1, 0] (lv2 := [(0, .ref x), (1, .int a0), (2, .int a1), (3, .int x1), (4, .int r2), (5, .int x4), (6, .int x5), (7, .int x6)]) rfl ?_
          exact jt_L_valuesFit_107 hd x1 r2 x4 x5 x6 (-2000000001 : Int32) (qr_value A a0 (x1 + (1 : Int32))) _ hO hQ
def jp_L_fits_55 (A : AB) (a0 : Int32) (K : Int32 → Prop) (x_2 : Int64) (t_0 : Int32) : Prop := ((t_0 = (0 : Int32) → K (0 : Int32)) ∧ (¬ t_0 = (0 : Int32) → wp_L_trace A (fun (r5 : Int64) => ((¬ (lg_cmp r5 x_2) = (0 : Int32) → K (0 : Int32)) ∧ ((lg_cmp r5 x_2) = (0 : Int32) → K (1 : Int32))))))
set_option maxHeartbeats 4000000 in
theorem jt_L_fits_55 {G : GX} {l : Launch} {d x : Nat} {A : AB} {a0 : Int32} {K : Int32 → Prop} (hd : 9 ≤ d) (x_2 : Int64) (t_0 : Int32) (w : HW) (hO : OW w x A) (hQ : jp_L_fits_55 A a0 K x_2 t_0) : X G l m_L_fits d 57 24366 57 24366 55 [(0, .ref x), (2, .long x_2)] [.int t_0] w (fun r9 w2 => ∃ (r1 : Int32), r9 = some (.int r1) ∧ OW w2 x A ∧ K r1) := by
  refine x_istore (lv2 := [(4, .int t_0), (0, .ref x), (2, .long x_2)]) d_L_fits_55 (by decide) rfl ?_
  refine x_iload 0 d_L_fits_57 rfl ?_
  refine x_if_eq (tgt := 75) d_L_fits_59 (by decide) (fun c_59_4 => ?_) (fun c_59_4 => ?_)
  · have hQ := hQ.1 c_59_4
    refine x_iconst (v := (0 : Int32)) d_L_fits_75 (by decide) ?_
    exact x_iret (retB d_L_fits_76 rfl rfl) ⟨_, rfl, hO, hQ⟩
  · have hQ := hQ.2 c_59_4
    refine x_aload_n 1 d_L_fits_62 rfl rfl ?_
    refine x_invS (rest := []) (d' := d - 1) (mc' := 0) (ms' := 0) [.ref x] k_L_trace lk_L_60 rfl rfl (Nat.le_of_ble_eq_true rfl) (by omega) (Nat.le_of_ble_eq_true rfl) (Nat.le_of_ble_eq_true rfl) d_L_fits_63 ((sp_L_trace (d := d - 1) (by omega) hO hQ).mono (fun r w2 hr => ?_))
    obtain ⟨r5, rfl, hO, hQ⟩ := hr
    refine x_lload_n 2 d_L_fits_66 rfl rfl ?_
    refine x_lcmp d_L_fits_67 ?_
    refine x_if_ne (tgt := 75) d_L_fits_68 (by decide) (fun c_68_6 => ?_) (fun c_68_6 => ?_)
    · have hQ := hQ.1 c_68_6
      refine x_iconst (v := (0 : Int32)) d_L_fits_75 (by decide) ?_
      exact x_iret (retB d_L_fits_76 rfl rfl) ⟨_, rfl, hO, hQ⟩
    · have hQ := hQ.2 c_68_6
      refine x_iconst (v := (1 : Int32)) d_L_fits_71 (by decide) ?_
      refine x_goto (tgt := 76) d_L_fits_72 (by decide) ?_
      exact x_iret (retB d_L_fits_76 rfl rfl) ⟨_, rfl, hO, hQ⟩
def jp_L_fits_54 (A : AB) (a0 : Int32) (K : Int32 → Prop) (x_2 : Int64) : Prop := jp_L_fits_55 A a0 K x_2 (0 : Int32)
set_option maxHeartbeats 4000000 in
theorem jt_L_fits_54 {G : GX} {l : Launch} {d x : Nat} {A : AB} {a0 : Int32} {K : Int32 → Prop} (hd : 9 ≤ d) (x_2 : Int64) (w : HW) (hO : OW w x A) (hQ : jp_L_fits_54 A a0 K x_2) : X G l m_L_fits d 57 24366 57 24366 54 [(0, .ref x), (2, .long x_2)] [] w (fun r9 w2 => ∃ (r1 : Int32), r9 = some (.int r1) ∧ OW w2 x A ∧ K r1) := by
  refine x_iconst (v := (0 : Int32)) d_L_fits_54 (by decide) ?_
  refine x_sub [0, 1] (lv2 := [(0, .ref x), (2, .long x_2)]) rfl ?_
  exact jt_L_fits_55 hd x_2 (0 : Int32) _ hO hQ
def wp_L_fits (A : AB) (a0 : Int32) (K : Int32 → Prop) : Prop := wp_L_trace A (fun (r1 : Int64) => wp_L_breaksFit A (fun (r2 : Int32) => ((r2 = (0 : Int32) → jp_L_fits_54 A a0 K r1) ∧ (¬ r2 = (0 : Int32) → wp_L_stepsFit A (fun (r7 : Int32) => ((r7 = (0 : Int32) → jp_L_fits_54 A a0 K r1) ∧ (¬ r7 = (0 : Int32) → wp_L_valuesFit A (0 : Int32) a0 (fun (r9 : Int32) => ((r9 = (0 : Int32) → jp_L_fits_54 A a0 K r1) ∧ (¬ r9 = (0 : Int32) → wp_L_valuesFit A (1 : Int32) (a0 >>> ((2 : Int32) &&& 31)) (fun (r11 : Int32) => ((r11 = (0 : Int32) → jp_L_fits_54 A a0 K r1) ∧ (¬ r11 = (0 : Int32) → wp_L_valuesFit A (2 : Int32) (a0 >>> ((4 : Int32) &&& 31)) (fun (r13 : Int32) => ((r13 = (0 : Int32) → jp_L_fits_54 A a0 K r1) ∧ (¬ r13 = (0 : Int32) → jp_L_fits_55 A a0 K r1 (1 : Int32)))))))))))))))))
set_option maxHeartbeats 4000000 in
theorem sp_L_fits {G : GX} {l : Launch} {d x : Nat} {w : HW} {A : AB} {a0 : Int32} {K : Int32 → Prop} (hd : 9 ≤ d) (hO : OW w x A) (hQ : wp_L_fits A a0 K) : Sp G l m_L_fits d 57 24366 [.ref x, .int a0] w (fun r9 w2 => ∃ (r1 : Int32), r9 = some (.int r1) ∧ OW w2 x A ∧ K r1) := by
  refine Sp.ofX k_L_fits.1.1 (Nat.le_of_ble_eq_true rfl) ?_
  refine X.lv (lv2 := [(0, .ref x), (1, .int a0)]) rfl ?_
  refine x_aload_n 0 d_L_fits_0 rfl rfl ?_
  refine x_invS (rest := []) (d' := d - 1) (mc' := 0) (ms' := 0) [.ref x] k_L_trace lk_L_60 rfl rfl (Nat.le_of_ble_eq_true rfl) (by omega) (Nat.le_of_ble_eq_true rfl) (Nat.le_of_ble_eq_true rfl) d_L_fits_1 ((sp_L_trace (d := d - 1) (by omega) hO hQ).mono (fun r w2 hr => ?_))
  obtain ⟨r1, rfl, hO, hQ⟩ := hr
  refine x_lstore_n (lv2 := [(2, .long r1), (0, .ref x), (1, .int a0)]) d_L_fits_4 rfl (by decide) rfl ?_
  refine x_aload_n 1 d_L_fits_5 rfl rfl ?_
  refine x_invS (rest := []) (d' := d - 1) (mc' := 0) (ms' := 0) [.ref x] k_L_breaksFit lk_L_64 rfl rfl (Nat.le_of_ble_eq_true rfl) (by omega) (Nat.le_of_ble_eq_true rfl) (Nat.le_of_ble_eq_true rfl) d_L_fits_6 ((sp_L_breaksFit (d := d - 1) (by omega) hO hQ).mono (fun r w2 hr => ?_))
  obtain ⟨r2, rfl, hO, hQ⟩ := hr
  refine x_if_eq (tgt := 54) d_L_fits_9 (by decide) (fun c_9_3 => ?_) (fun c_9_3 => ?_)
  · have hQ := hQ.1 c_9_3
    refine X.widen (k2 := 57) (n2 := 24366) (Nat.le_of_ble_eq_true rfl) (Nat.le_of_ble_eq_true rfl) (Nat.le_of_ble_eq_true rfl) (Nat.le_of_ble_eq_true rfl) ?_
    refine x_sub [1, 0] (lv2 := [(0, .ref x), (2, .long r1)]) rfl ?_
    exact jt_L_fits_54 hd r1 _ hO hQ
  · have hQ := hQ.2 c_9_3
    refine x_aload_n 1 d_L_fits_12 rfl rfl ?_
    refine x_invS (rest := []) (d' := d - 1) (mc' := 0) (ms' := 0) [.ref x] k_L_stepsFit lk_L_68 rfl rfl (Nat.le_of_ble_eq_true rfl) (by omega) (Nat.le_of_ble_eq_true rfl) (Nat.le_of_ble_eq_true rfl) d_L_fits_13 ((sp_L_stepsFit (d := d - 1) (by omega) hO hQ).mono (fun r w2 hr => ?_))
    obtain ⟨r7, rfl, hO, hQ⟩ := hr
    refine x_if_eq (tgt := 54) d_L_fits_16 (by decide) (fun c_16_8 => ?_) (fun c_16_8 => ?_)
    · have hQ := hQ.1 c_16_8
      refine X.widen (k2 := 57) (n2 := 24366) (Nat.le_of_ble_eq_true rfl) (Nat.le_of_ble_eq_true rfl) (Nat.le_of_ble_eq_true rfl) (Nat.le_of_ble_eq_true rfl) ?_
      refine x_sub [1, 0] (lv2 := [(0, .ref x), (2, .long r1)]) rfl ?_
      exact jt_L_fits_54 hd r1 _ hO hQ
    · have hQ := hQ.2 c_16_8
      refine x_aload_n 1 d_L_fits_19 rfl rfl ?_
      refine x_iconst (v := (0 : Int32)) d_L_fits_20 (by decide) ?_
      refine x_iload_n 2 d_L_fits_21 rfl rfl ?_
      refine x_invS (rest := []) (d' := d - 1) (mc' := 19) (ms' := 8122) [.ref x, .int (0 : Int32), .int a0] k_L_valuesFit lk_L_71 rfl rfl (Nat.le_of_ble_eq_true rfl) (by omega) (Nat.le_of_ble_eq_true rfl) (Nat.le_of_ble_eq_true rfl) d_L_fits_22 ((sp_L_valuesFit (d := d - 1) (by omega) hO hQ).mono (fun r w2 hr => ?_))
      obtain ⟨r9, rfl, hO, hQ⟩ := hr
      refine x_if_eq (tgt := 54) d_L_fits_25 (by decide) (fun c_25_10 => ?_) (fun c_25_10 => ?_)
      · have hQ := hQ.1 c_25_10
        refine X.widen (k2 := 57) (n2 := 24366) (Nat.le_of_ble_eq_true rfl) (Nat.le_of_ble_eq_true rfl) (Nat.le_of_ble_eq_true rfl) (Nat.le_of_ble_eq_true rfl) ?_
        refine x_sub [1, 0] (lv2 := [(0, .ref x), (2, .long r1)]) rfl ?_
        exact jt_L_fits_54 hd r1 _ hO hQ
      · have hQ := hQ.2 c_25_10
        refine x_aload_n 1 d_L_fits_28 rfl rfl ?_
        refine x_iconst (v := (1 : Int32)) d_L_fits_29 (by decide) ?_
        refine x_iload_n 2 d_L_fits_30 rfl rfl ?_
        refine x_iconst (v := (2 : Int32)) d_L_fits_31 (by decide) ?_
        refine x_ishr d_L_fits_32 ?_
        refine x_invS (rest := []) (d' := d - 1) (mc' := 19) (ms' := 8122) [.ref x, .int (1 : Int32), .int (a0 >>> ((2 : Int32) &&& 31))] k_L_valuesFit lk_L_71 rfl rfl (Nat.le_of_ble_eq_true rfl) (by omega) (Nat.le_of_ble_eq_true rfl) (Nat.le_of_ble_eq_true rfl) d_L_fits_33 ((sp_L_valuesFit (d := d - 1) (by omega) hO hQ).mono (fun r w2 hr => ?_))
        obtain ⟨r11, rfl, hO, hQ⟩ := hr
        refine x_if_eq (tgt := 54) d_L_fits_36 (by decide) (fun c_36_12 => ?_) (fun c_36_12 => ?_)
        · have hQ := hQ.1 c_36_12
          refine X.widen (k2 := 57) (n2 := 24366) (Nat.le_of_ble_eq_true rfl) (Nat.le_of_ble_eq_true rfl) (Nat.le_of_ble_eq_true rfl) (Nat.le_of_ble_eq_true rfl) ?_
          refine x_sub [1, 0] (lv2 := [(0, .ref x), (2, .long r1)]) rfl ?_
          exact jt_L_fits_54 hd r1 _ hO hQ
        · have hQ := hQ.2 c_36_12
          refine x_aload_n 1 d_L_fits_39 rfl rfl ?_
          refine x_iconst (v := (2 : Int32)) d_L_fits_40 (by decide) ?_
          refine x_iload_n 2 d_L_fits_41 rfl rfl ?_
          refine x_iconst (v := (4 : Int32)) d_L_fits_42 (by decide) ?_
          refine x_ishr d_L_fits_43 ?_
          refine x_invS (rest := []) (d' := d - 1) (mc' := 19) (ms' := 8122) [.ref x, .int (2 : Int32), .int (a0 >>> ((4 : Int32) &&& 31))] k_L_valuesFit lk_L_71 rfl rfl (Nat.le_of_ble_eq_true rfl) (by omega) (Nat.le_of_ble_eq_true rfl) (Nat.le_of_ble_eq_true rfl) d_L_fits_44 ((sp_L_valuesFit (d := d - 1) (by omega) hO hQ).mono (fun r w2 hr => ?_))
          obtain ⟨r13, rfl, hO, hQ⟩ := hr
          refine x_if_eq (tgt := 54) d_L_fits_47 (by decide) (fun c_47_14 => ?_) (fun c_47_14 => ?_)
          · have hQ := hQ.1 c_47_14
            refine x_sub [1, 0] (lv2 := [(0, .ref x), (2, .long r1)]) rfl ?_
            exact jt_L_fits_54 hd r1 _ hO hQ
          · have hQ := hQ.2 c_47_14
            refine x_iconst (v := (1 : Int32)) d_L_fits_50 (by decide) ?_
            refine x_goto (tgt := 55) d_L_fits_51 (by decide) ?_
            refine x_sub [1, 0] (lv2 := [(0, .ref x), (2, .long r1)]) rfl ?_
            exact jt_L_fits_55 hd r1 (1 : Int32) _ hO hQ
def jp_L_types_26 (a0 : Int32) (a1 : Int32) (a2 : Int32) (a3 : Int32) (K : AB → Prop) (y_A : AB) : Prop := ((a3 ≤ (0 : Int32) → K y_A) ∧ (¬ a3 ≤ (0 : Int32) → ∀ r5 : Int32, K y_A))
set_option maxHeartbeats 4000000 in
theorem jt_L_types_26 {G : GX} {l : Launch} {d x : Nat} {a0 : Int32} {a1 : Int32} {a2 : Int32} {a3 : Int32} {K : AB → Prop} (hd : 3 ≤ d) (y_A : AB) (w : HW) (hO : OW w x y_A) (hQ : jp_L_types_26 a0 a1 a2 a3 K y_A) : X G l m_L_types d 0 0 0 0 26 [(0, .ref x), (4, .int a3)] [] w (fun r9 w2 => ∃ (z_A : AB), r9 = none ∧ OW w2 x z_A ∧ K z_A) := by
  refine x_iload 1 d_L_types_26 rfl ?_
  refine x_if_le (tgt := 38) d_L_types_28 (by decide) (fun c_28_4 => ?_) (fun c_28_4 => ?_)
  · have hQ := hQ.1 c_28_4
    exact x_vret (retV d_L_types_38 rfl) ⟨_, rfl, hO, hQ⟩
  · have hQ := hQ.2 c_28_4
    refine x_aload_n 0 d_L_types_31 rfl rfl ?_
    refine x_iload 1 d_L_types_32 rfl ?_
    refine x_invV (rest := []) (d' := d - 1) (mc' := 0) (ms' := 0) [.int a3] k_X9_type lk_L_75 (OWx hO) rfl rfl rfl (Nat.le_of_ble_eq_true rfl) (by omega) (Nat.le_of_ble_eq_true rfl) (Nat.le_of_ble_eq_true rfl) d_L_types_34 ((sw_type (d := d - 1) (by omega) hO).mono (fun r w2 hr => ?_))
    obtain ⟨r5, rfl, hO⟩ := hr
    have hQ := hQ r5
    refine x_pop d_L_types_37 rfl ?_
    exact x_vret (retV d_L_types_38 rfl) ⟨_, rfl, hO, hQ⟩
def jp_L_types_16 (a0 : Int32) (a1 : Int32) (a2 : Int32) (a3 : Int32) (K : AB → Prop) (y_A : AB) : Prop := ((a2 ≤ (0 : Int32) → jp_L_types_26 a0 a1 a2 a3 K y_A) ∧ (¬ a2 ≤ (0 : Int32) → ∀ r6 : Int32, jp_L_types_26 a0 a1 a2 a3 K y_A))
set_option maxHeartbeats 4000000 in
theorem jt_L_types_16 {G : GX} {l : Launch} {d x : Nat} {a0 : Int32} {a1 : Int32} {a2 : Int32} {a3 : Int32} {K : AB → Prop} (hd : 3 ≤ d) (y_A : AB) (w : HW) (hO : OW w x y_A) (hQ : jp_L_types_16 a0 a1 a2 a3 K y_A) : X G l m_L_types d 0 0 0 0 16 [(0, .ref x), (3, .int a2), (4, .int a3)] [] w (fun r9 w2 => ∃ (z_A : AB), r9 = none ∧ OW w2 x z_A ∧ K z_A) := by
  refine x_iload_n 1 d_L_types_16 rfl rfl ?_
  refine x_if_le (tgt := 26) d_L_types_17 (by decide) (fun c_17_3 => ?_) (fun c_17_3 => ?_)
  · have hQ := hQ.1 c_17_3
    refine x_sub [0, 2] (lv2 := [(0, .ref x), (4, .int a3)]) rfl ?_
    exact jt_L_types_26 hd y_A _ hO hQ
  · have hQ := hQ.2 c_17_3
    refine x_aload_n 0 d_L_types_20 rfl rfl ?_
    refine x_iload_n 1 d_L_types_21 rfl rfl ?_
    refine x_invV (rest := []) (d' := d - 1) (mc' := 0) (ms' := 0) [.int a2] k_X9_type lk_L_75 (OWx hO) rfl rfl rfl (Nat.le_of_ble_eq_true rfl) (by omega) (Nat.le_of_ble_eq_true rfl) (Nat.le_of_ble_eq_true rfl) d_L_types_22 ((sw_type (d := d - 1) (by omega) hO).mono (fun r w2 hr => ?_))
    obtain ⟨r6, rfl, hO⟩ := hr
    have hQ := hQ r6
    refine x_pop d_L_types_25 rfl ?_
    refine x_sub [0, 2] (lv2 := [(0, .ref x), (4, .int a3)]) rfl ?_
    exact jt_L_types_26 hd y_A _ hO hQ
def wp_L_types (A : AB) (a0 : Int32) (a1 : Int32) (a2 : Int32) (a3 : Int32) (K : AB → Prop) : Prop := ∀ r1 : Int32, ((a1 ≤ (0 : Int32) → jp_L_types_16 a0 a1 a2 a3 K A) ∧ (¬ a1 ≤ (0 : Int32) → ∀ r7 : Int32, jp_L_types_16 a0 a1 a2 a3 K A))
set_option maxHeartbeats 4000000 in
theorem sp_L_types {G : GX} {l : Launch} {d x : Nat} {w : HW} {A : AB} {a0 : Int32} {a1 : Int32} {a2 : Int32} {a3 : Int32} {K : AB → Prop} (hd : 3 ≤ d) (hO : OW w x A) (hQ : wp_L_types A a0 a1 a2 a3 K) : Sp G l m_L_types d 0 0 [.ref x, .int a0, .int a1, .int a2, .int a3] w (fun r9 w2 => ∃ (z_A : AB), r9 = none ∧ OW w2 x z_A ∧ K z_A) := by
  refine Sp.ofX k_L_types.1.1 (Nat.le_of_ble_eq_true rfl) ?_
  refine X.lv (lv2 := [(0, .ref x), (1, .int a0), (2, .int a1), (3, .int a2), (4, .int a3)]) rfl ?_
  refine x_aload_n 0 d_L_types_0 rfl rfl ?_
  refine x_iload_n 1 d_L_types_1 rfl rfl ?_
  refine x_invV (rest := []) (d' := d - 1) (mc' := 0) (ms' := 0) [.int a0] k_X9_type lk_L_75 (OWx hO) rfl rfl rfl (Nat.le_of_ble_eq_true rfl) (by omega) (Nat.le_of_ble_eq_true rfl) (Nat.le_of_ble_eq_true rfl) d_L_types_2 ((sw_type (d := d - 1) (by omega) hO).mono (fun r w2 hr => ?_))
  obtain ⟨r1, rfl, hO⟩ := hr
  have hQ := hQ r1
  refine x_pop d_L_types_5 rfl ?_
  refine x_iload_n 2 d_L_types_6 rfl rfl ?_
  refine x_if_le (tgt := 16) d_L_types_7 (by decide) (fun c_7_2 => ?_) (fun c_7_2 => ?_)
  · have hQ := hQ.1 c_7_2
    refine x_sub [0, 3, 4] (lv2 := [(0, .ref x), (3, .int a2), (4, .int a3)]) rfl ?_
    exact jt_L_types_16 hd A _ hO hQ
  · have hQ := hQ.2 c_7_2
    refine x_aload_n 0 d_L_types_10 rfl rfl ?_
    refine x_iload_n 2 d_L_types_11 rfl rfl ?_
    refine x_invV (rest := []) (d' := d - 1) (mc' := 0) (ms' := 0) [.int a1] k_X9_type lk_L_75 (OWx hO) rfl rfl rfl (Nat.le_of_ble_eq_true rfl) (by omega) (Nat.le_of_ble_eq_true rfl) (Nat.le_of_ble_eq_true rfl) d_L_types_12 ((sw_type (d := d - 1) (by omega) hO).mono (fun r w2 hr => ?_))
    obtain ⟨r7, rfl, hO⟩ := hr
    have hQ := hQ r7
    refine x_pop d_L_types_15 rfl ?_
    refine x_sub [0, 3, 4] (lv2 := [(0, .ref x), (3, .int a2), (4, .int a3)]) rfl ?_
    exact jt_L_types_16 hd A _ hO hQ
def jp_L_rights_290 (a0 : Int32) (a1 : Int32) (K : Int32 → AB → Prop) (y_A : AB) : Prop := ∀ r7 : Int32, wp_L_near (a1 >>> ((2 : Int32) &&& 31)) (3 : Int32) (fun (r8 : Int32) => ∀ (r9 : Int32) (A10 : AB), RelR y_A r9 A10 → AOK A10 → ((¬ r7 = (-2000000004 : Int32) → ((r9 = (-2000000002 : Int32) → K (-2000000002 : Int32) A10) ∧ (¬ r9 = (-2000000002 : Int32) → ((¬ r9 = (-2000000001 : Int32) → K (0 : Int32) A10) ∧ (r9 = (-2000000001 : Int32) → K (-2000000002 : Int32) A10))))) ∧ (r7 = (-2000000004 : Int32) → K r9 A10)))
set_option maxHeartbeats 4000000 in
theorem jt_L_rights_290 {G : GX} {l : Launch} {d x : Nat} {a0 : Int32} {a1 : Int32} {K : Int32 → AB → Prop} (hd : 70 ≤ d) (y_A : AB) (w : HW) (hO : OW w x y_A) (hQ : jp_L_rights_290 a0 a1 K y_A) : X G l m_L_rights d 19 8122 0 0 290 [(0, .ref x), (2, .int a1)] [] w (fun r9 w2 => ∃ (r1 : Int32), ∃ (z_A : AB), r9 = some (.int r1) ∧ OW w2 x z_A ∧ K r1 z_A) := by
  refine x_aload_n 0 d_L_rights_290 rfl rfl ?_
  refine x_invV (rest := []) (d' := d - 1) (mc' := 0) (ms' := 0) [] k_X9_fault lk_L_86 (OWx hO) rfl rfl rfl (Nat.le_of_ble_eq_true rfl) (by omega) (Nat.le_of_ble_eq_true rfl) (Nat.le_of_ble_eq_true rfl) d_L_rights_291 ((sw_fault (d := d - 1) (by omega) hO).mono (fun r w2 hr => ?_))
  obtain ⟨r7, rfl, hO⟩ := hr
  have hQ := hQ r7
  refine x_istore (lv2 := [(4, .int r7), (0, .ref x), (2, .int a1)]) d_L_rights_294 (by decide) rfl ?_
  refine x_aload_n 1 d_L_rights_296 rfl rfl ?_
  refine x_iload_n 2 d_L_rights_297 rfl rfl ?_
  refine x_iconst (v := (2 : Int32)) d_L_rights_298 (by decide) ?_
  refine x_ishr d_L_rights_299 ?_
  refine x_iconst (v := (3 : Int32)) d_L_rights_300 (by decide) ?_
  refine x_invS (rest := [.ref x]) (d' := d - 1) (mc' := 0) (ms' := 0) [.int (a1 >>> ((2 : Int32) &&& 31)), .int (3 : Int32)] k_L_near lk_L_89 rfl rfl (Nat.le_of_ble_eq_true rfl) (by omega) (Nat.le_of_ble_eq_true rfl) (Nat.le_of_ble_eq_true rfl) d_L_rights_301 ((sp_L_near (d := d - 1) (by omega) hQ).mono (fun r w2 hr => ?_))
  obtain ⟨r8, rfl, rfl, hQ⟩ := hr
  refine x_invV (rest := []) (d' := d - 1) (mc' := 19) (ms' := 8122) [.int r8] k_X9_right lk_L_92 (OWx hO) rfl rfl rfl (Nat.le_of_ble_eq_true rfl) (by omega) (Nat.le_of_ble_eq_true rfl) (Nat.le_of_ble_eq_true rfl) d_L_rights_304 ((sw_right (d := d - 1) (by omega) hO).mono (fun r w2 hr => ?_))
  obtain ⟨r9, A10, rfl, hO, hR⟩ := hr
  have hQ := hQ r9 A10 hR hO.1
  refine x_istore (lv2 := [(5, .int r9), (4, .int r7), (0, .ref x), (2, .int a1)]) d_L_rights_307 (by decide) rfl ?_
  refine x_iload 1 d_L_rights_309 rfl ?_
  refine x_ldc (v := (-2000000004 : Int32)) kc_L_16 d_L_rights_311 ?_
  refine x_icmp_ne (tgt := 321) d_L_rights_313 (by decide) (fun c_313_11 => ?_) (fun c_313_11 => ?_)
  · have hQ := hQ.1 c_313_11
    refine x_iload 0 d_L_rights_321 rfl ?_
    refine x_ldc (v := (-2000000002 : Int32)) kc_L_95 d_L_rights_323 ?_
    refine x_icmp_eq (tgt := 335) d_L_rights_325 (by decide) (fun c_325_12 => ?_) (fun c_325_12 => ?_)
    · have hQ := hQ.1 c_325_12
      refine x_ldc (v := (-2000000002 : Int32)) kc_L_95 d_L_rights_335 ?_
      refine x_goto (tgt := 341) d_L_rights_337 (by decide) ?_
      exact x_iret (retI d_L_rights_341 rfl) ⟨_, _, rfl, hO, hQ⟩
    · have hQ := hQ.2 c_325_12
      refine x_iload 0 d_L_rights_328 rfl ?_
      refine x_ldc (v := (-2000000001 : Int32)) kc_L_15 d_L_rights_330 ?_
      refine x_icmp_ne (tgt := 340) d_L_rights_332 (by decide) (fun c_332_13 => ?_) (fun c_332_13 => ?_)
      · have hQ := hQ.1 c_332_13
        refine x_iconst (v := (0 : Int32)) d_L_rights_340 (by decide) ?_
        exact x_iret (retI d_L_rights_341 rfl) ⟨_, _, rfl, hO, hQ⟩
      · have hQ := hQ.2 c_332_13
        refine x_ldc (v := (-2000000002 : Int32)) kc_L_95 d_L_rights_335 ?_
        refine x_goto (tgt := 341) d_L_rights_337 (by decide) ?_
        exact x_iret (retI d_L_rights_341 rfl) ⟨_, _, rfl, hO, hQ⟩
  · have hQ := hQ.2 c_313_11
    refine x_iload 0 d_L_rights_316 rfl ?_
    refine x_goto (tgt := 341) d_L_rights_318 (by decide) ?_
    exact x_iret (retI d_L_rights_341 rfl) ⟨_, _, rfl, hO, hQ⟩
def jp_L_rights_193 (a0 : Int32) (a1 : Int32) (K : Int32 → AB → Prop) (k_16 : Int32 → Int32 → AB → Prop) (x_3 : Int32) (x_4 : Int32) (x_5 : Int32) (y_A : AB) : Prop := wp_L_low x_5 (3 : Int32) (fun (r26 : Int32) => wp_L_low (x_5 >>> ((1 : Int32) &&& 31)) (3 : Int32) (fun (r27 : Int32) => wp_L_types y_A ((120 : Int32) + r26) (64 : Int32) ((48 : Int32) + r27) (0 : Int32) (fun (A28 : AB) => ∀ x29 : Int32, x29 = x_4 + (1 : Int32) → k_16 x_3 x29 A28)))
set_option maxHeartbeats 4000000 in
theorem jt_L_rights_193 {G : GX} {l : Launch} {d x : Nat} {a0 : Int32} {a1 : Int32} {K : Int32 → AB → Prop} {k_16 : Int32 → Int32 → AB → Prop} (hd : 70 ≤ d) (hk_16 : ∀ (x_3 : Int32) (x_4 : Int32) (y_A : AB) (w : HW), OW w x y_A → k_16 x_3 x_4 y_A → X G l m_L_rights d 19 8122 0 0 16 [(0, .ref x), (1, .int a0), (2, .int a1), (3, .int x_3), (4, .int x_4)] [] w (fun r9 w2 => ∃ (r1 : Int32), ∃ (z_A : AB), r9 = some (.int r1) ∧ OW w2 x z_A ∧ K r1 z_A)) (x_3 : Int32) (x_4 : Int32) (x_5 : Int32) (y_A : AB) (w : HW) (hO : OW w x y_A) (hQ : jp_L_rights_193 a0 a1 K k_16 x_3 x_4 x_5 y_A) : X G l m_L_rights d 19 8122 0 0 193 [(0, .ref x), (1, .int a0), (2, .int a1), (3, .int x_3), (4, .int x_4), (5, .int x_5)] [] w (fun r9 w2 => ∃ (r1 : Int32), ∃ (z_A : AB), r9 = some (.int r1) ∧ OW w2 x z_A ∧ K r1 z_A) := by
  refine x_aload_n 0 d_L_rights_193 rfl rfl ?_
  refine x_bipush (v := (120 : Int32)) d_L_rights_194 (by decide) ?_
  refine x_iload 5 d_L_rights_196 rfl ?_
  refine x_iconst (v := (3 : Int32)) d_L_rights_198 (by decide) ?_
  refine x_invS (rest := [.int (120 : Int32), .ref x]) (d' := d - 1) (mc' := 0) (ms' := 0) [.int x_5, .int (3 : Int32)] k_L_low lk_L_9 rfl rfl (Nat.le_of_ble_eq_true rfl) (by omega) (Nat.le_of_ble_eq_true rfl) (Nat.le_of_ble_eq_true rfl) d_L_rights_199 ((sp_L_low (d := d - 1) (by omega) hQ).mono (fun r w2 hr => ?_))
  obtain ⟨r26, rfl, rfl, hQ⟩ := hr
  refine x_iadd d_L_rights_202 ?_
  refine x_bipush (v := (64 : Int32)) d_L_rights_203 (by decide) ?_
  refine x_bipush (v := (48 : Int32)) d_L_rights_205 (by decide) ?_
  refine x_iload 5 d_L_rights_207 rfl ?_
  refine x_iconst (v := (1 : Int32)) d_L_rights_209 (by decide) ?_
  refine x_ishr d_L_rights_210 ?_
  refine x_iconst (v := (3 : Int32)) d_L_rights_211 (by decide) ?_
  refine x_invS (rest := [.int (48 : Int32), .int (64 : Int32), .int ((120 : Int32) + r26), .ref x]) (d' := d - 1) (mc' := 0) (ms' := 0) [.int (x_5 >>> ((1 : Int32) &&& 31)), .int (3 : Int32)] k_L_low lk_L_9 rfl rfl (Nat.le_of_ble_eq_true rfl) (by omega) (Nat.le_of_ble_eq_true rfl) (Nat.le_of_ble_eq_true rfl) d_L_rights_212 ((sp_L_low (d := d - 1) (by omega) hQ).mono (fun r w2 hr => ?_))
  obtain ⟨r27, rfl, rfl, hQ⟩ := hr
  refine x_iadd d_L_rights_215 ?_
  refine x_iconst (v := (0 : Int32)) d_L_rights_216 (by decide) ?_
  refine x_invS (rest := []) (d' := d - 1) (mc' := 0) (ms' := 0) [.ref x, .int ((120 : Int32) + r26), .int (64 : Int32), .int ((48 : Int32) + r27), .int (0 : Int32)] k_L_types lk_L_82 rfl rfl (Nat.le_of_ble_eq_true rfl) (by omega) (Nat.le_of_ble_eq_true rfl) (Nat.le_of_ble_eq_true rfl) d_L_rights_217 ((sp_L_types (d := d - 1) (by omega) hO hQ).mono (fun r w2 hr => ?_))
  obtain ⟨A28, rfl, hO, hQ⟩ := hr
  refine x_goto (tgt := 263) d_L_rights_220 (by decide) ?_
  obtain ⟨x29, e_x29⟩ : ∃ z : Int32, z = x_4 + (1 : Int32) := ⟨_, rfl⟩
  have hQ := hQ x29 e_x29
  refine x_iinc (v := x29) (lv2 := [(4, .int x29), (0, .ref x), (1, .int a0), (2, .int a1), (3, .int x_3), (5, .int x_5)]) 4 d_L_rights_263 rfl (by rw [e_x29]; rfl) (by decide) rfl ?_
  refine x_goto (tgt := 16) d_L_rights_266 (by decide) ?_
  refine x_sub [1, 2, 3, 4, 0] (lv2 := [(0, .ref x), (1, .int a0), (2, .int a1), (3, .int x_3), (4, .int x29)]) rfl ?_
  exact hk_16 x_3 x29 A28 _ hO hQ
def jp_L_rights_109 (a0 : Int32) (a1 : Int32) (K : Int32 → AB → Prop) (k_16 : Int32 → Int32 → AB → Prop) (x_3 : Int32) (x_4 : Int32) (x_5 : Int32) (y_A : AB) : Prop := wp_L_low (x_5 >>> ((2 : Int32) &&& 31)) (6 : Int32) (fun (r19 : Int32) => ((r19 = (0 : Int32) → wp_L_low x_5 (10 : Int32) (fun (r20 : Int32) => wp_L_types y_A (48 : Int32) (46 : Int32) ((48 : Int32) + r20) (0 : Int32) (fun (A21 : AB) => ∀ x22 : Int32, x22 = x_4 + (1 : Int32) → k_16 x_3 x22 A21))) ∧ (¬ r19 = (0 : Int32) → ((r19 = (1 : Int32) → wp_L_low x_5 (3 : Int32) (fun (r23 : Int32) => wp_L_types y_A ((120 : Int32) + r23) (0 : Int32) (0 : Int32) (0 : Int32) (fun (A24 : AB) => ∀ x25 : Int32, x25 = x_4 + (1 : Int32) → k_16 x_3 x25 A24))) ∧ (¬ r19 = (1 : Int32) → ((r19 = (2 : Int32) → jp_L_rights_193 a0 a1 K k_16 x_3 x_4 x_5 y_A) ∧ (¬ r19 = (2 : Int32) → ((r19 = (3 : Int32) → jp_L_rights_193 a0 a1 K k_16 x_3 x_4 x_5 y_A) ∧ (¬ r19 = (3 : Int32) → ((r19 = (4 : Int32) → wp_L_low x_5 (3 : Int32) (fun (r30 : Int32) => wp_L_low (x_5 >>> ((1 : Int32) &&& 31)) (3 : Int32) (fun (r31 : Int32) => wp_L_types y_A ((120 : Int32) + r30) (39 : Int32) (64 : Int32) ((48 : Int32) + r31) (fun (A32 : AB) => ∀ x33 : Int32, x33 = x_4 + (1 : Int32) → k_16 x_3 x33 A32)))) ∧ (¬ r19 = (4 : Int32) → (wp_L_types y_A (116 : Int32) (0 : Int32) (0 : Int32) (0 : Int32) (fun (A34 : AB) => ∀ x35 : Int32, x35 = x_4 + (1 : Int32) → k_16 x_3 x35 A34)))))))))))))
set_option maxHeartbeats 4000000 in
theorem jt_L_rights_109 {G : GX} {l : Launch} {d x : Nat} {a0 : Int32} {a1 : Int32} {K : Int32 → AB → Prop} {k_16 : Int32 → Int32 → AB → Prop} (hd : 70 ≤ d) (hk_16 : ∀ (x_3 : Int32) (x_4 : Int32) (y_A : AB) (w : HW), OW w x y_A → k_16 x_3 x_4 y_A → X G l m_L_rights d 19 8122 0 0 16 [(0, .ref x), (1, .int a0), (2, .int a1), (3, .int x_3), (4, .int x_4)] [] w (fun r9 w2 => ∃ (r1 : Int32), ∃ (z_A : AB), r9 = some (.int r1) ∧ OW w2 x z_A ∧ K r1 z_A)) (x_3 : Int32) (x_4 : Int32) (x_5 : Int32) (y_A : AB) (w : HW) (hO : OW w x y_A) (hQ : jp_L_rights_109 a0 a1 K k_16 x_3 x_4 x_5 y_A) : X G l m_L_rights d 19 8122 0 0 109 [(0, .ref x), (1, .int a0), (2, .int a1), (3, .int x_3), (4, .int x_4), (5, .int x_5)] [] w (fun r9 w2 => ∃ (r1 : Int32), ∃ (z_A : AB), r9 = some (.int r1) ∧ OW w2 x z_A ∧ K r1 z_A) := by
  refine x_iload 5 d_L_rights_109 rfl ?_
  refine x_iconst (v := (2 : Int32)) d_L_rights_111 (by decide) ?_
  refine x_ishr d_L_rights_112 ?_
  refine x_bipush (v := (6 : Int32)) d_L_rights_113 (by decide) ?_
  refine x_invS (rest := []) (d' := d - 1) (mc' := 0) (ms' := 0) [.int (x_5 >>> ((2 : Int32) &&& 31)), .int (6 : Int32)] k_L_low lk_L_9 rfl rfl (Nat.le_of_ble_eq_true rfl) (by omega) (Nat.le_of_ble_eq_true rfl) (Nat.le_of_ble_eq_true rfl) d_L_rights_115 ((sp_L_low (d := d - 1) (by omega) hQ).mono (fun r w2 hr => ?_))
  obtain ⟨r19, rfl, rfl, hQ⟩ := hr
  by_cases c_118_0 : r19 = (0 : Int32)
  · have hQ := hQ.1 c_118_0
    refine x_tableIn (off := (34 : Int)) (tgt := 152) d_L_rights_118 (by rw [c_118_0]; decide) (by rw [c_118_0]; decide) (by rw [c_118_0]; rfl) (by decide) ?_
    refine x_aload_n 0 d_L_rights_152 rfl rfl ?_
    refine x_bipush (v := (48 : Int32)) d_L_rights_153 (by decide) ?_
    refine x_bipush (v := (46 : Int32)) d_L_rights_155 (by decide) ?_
    refine x_bipush (v := (48 : Int32)) d_L_rights_157 (by decide) ?_
    refine x_iload 5 d_L_rights_159 rfl ?_
    refine x_bipush (v := (10 : Int32)) d_L_rights_161 (by decide) ?_
    refine x_invS (rest := [.int (48 : Int32), .int (46 : Int32), .int (48 : Int32), .ref x]) (d' := d - 1) (mc' := 0) (ms' := 0) [.int x_5, .int (10 : Int32)] k_L_low lk_L_9 rfl rfl (Nat.le_of_ble_eq_true rfl) (by omega) (Nat.le_of_ble_eq_true rfl) (Nat.le_of_ble_eq_true rfl) d_L_rights_163 ((sp_L_low (d := d - 1) (by omega) hQ).mono (fun r w2 hr => ?_))
    obtain ⟨r20, rfl, rfl, hQ⟩ := hr
    refine x_iadd d_L_rights_166 ?_
    refine x_iconst (v := (0 : Int32)) d_L_rights_167 (by decide) ?_
    refine x_invS (rest := []) (d' := d - 1) (mc' := 0) (ms' := 0) [.ref x, .int (48 : Int32), .int (46 : Int32), .int ((48 : Int32) + r20), .int (0 : Int32)] k_L_types lk_L_82 rfl rfl (Nat.le_of_ble_eq_true rfl) (by omega) (Nat.le_of_ble_eq_true rfl) (Nat.le_of_ble_eq_true rfl) d_L_rights_168 ((sp_L_types (d := d - 1) (by omega) hO hQ).mono (fun r w2 hr => ?_))
    obtain ⟨A21, rfl, hO, hQ⟩ := hr
    refine x_goto (tgt := 263) d_L_rights_171 (by decide) ?_
    obtain ⟨x22, e_x22⟩ : ∃ z : Int32, z = x_4 + (1 : Int32) := ⟨_, rfl⟩
    have hQ := hQ x22 e_x22
    refine x_iinc (v := x22) (lv2 := [(4, .int x22), (0, .ref x), (1, .int a0), (2, .int a1), (3, .int x_3), (5, .int x_5)]) 4 d_L_rights_263 rfl (by rw [e_x22]; rfl) (by decide) rfl ?_
    refine x_goto (tgt := 16) d_L_rights_266 (by decide) ?_
    refine x_sub [1, 2, 3, 4, 0] (lv2 := [(0, .ref x), (1, .int a0), (2, .int a1), (3, .int x_3), (4, .int x22)]) rfl ?_
    exact hk_16 x_3 x22 A21 _ hO hQ
  · have hQ := hQ.2 c_118_0
    by_cases c_118_1 : r19 = (1 : Int32)
    · have hQ := hQ.1 c_118_1
      refine x_tableIn (off := (56 : Int)) (tgt := 174) d_L_rights_118 (by rw [c_118_1]; decide) (by rw [c_118_1]; decide) (by rw [c_118_1]; rfl) (by decide) ?_
      refine x_aload_n 0 d_L_rights_174 rfl rfl ?_
      refine x_bipush (v := (120 : Int32)) d_L_rights_175 (by decide) ?_
      refine x_iload 5 d_L_rights_177 rfl ?_
      refine x_iconst (v := (3 : Int32)) d_L_rights_179 (by decide) ?_
      refine x_invS (rest := [.int (120 : Int32), .ref x]) (d' := d - 1) (mc' := 0) (ms' := 0) [.int x_5, .int (3 : Int32)] k_L_low lk_L_9 rfl rfl (Nat.le_of_ble_eq_true rfl) (by omega) (Nat.le_of_ble_eq_true rfl) (Nat.le_of_ble_eq_true rfl) d_L_rights_180 ((sp_L_low (d := d - 1) (by omega) hQ).mono (fun r w2 hr => ?_))
      obtain ⟨r23, rfl, rfl, hQ⟩ := hr
      refine x_iadd d_L_rights_183 ?_
      refine x_iconst (v := (0 : Int32)) d_L_rights_184 (by decide) ?_
      refine x_iconst (v := (0 : Int32)) d_L_rights_185 (by decide) ?_
      refine x_iconst (v := (0 : Int32)) d_L_rights_186 (by decide) ?_
      refine x_invS (rest := []) (d' := d - 1) (mc' := 0) (ms' := 0) [.ref x, .int ((120 : Int32) + r23), .int (0 : Int32), .int (0 : Int32), .int (0 : Int32)] k_L_types lk_L_82 rfl rfl (Nat.le_of_ble_eq_true rfl) (by omega) (Nat.le_of_ble_eq_true rfl) (Nat.le_of_ble_eq_true rfl) d_L_rights_187 ((sp_L_types (d := d - 1) (by omega) hO hQ).mono (fun r w2 hr => ?_))
      obtain ⟨A24, rfl, hO, hQ⟩ := hr
      refine x_goto (tgt := 263) d_L_rights_190 (by decide) ?_
      obtain ⟨x25, e_x25⟩ : ∃ z : Int32, z = x_4 + (1 : Int32) := ⟨_, rfl⟩
      have hQ := hQ x25 e_x25
      refine x_iinc (v := x25) (lv2 := [(4, .int x25), (0, .ref x), (1, .int a0), (2, .int a1), (3, .int x_3), (5, .int x_5)]) 4 d_L_rights_263 rfl (by rw [e_x25]; rfl) (by decide) rfl ?_
      refine x_goto (tgt := 16) d_L_rights_266 (by decide) ?_
      refine x_sub [1, 2, 3, 4, 0] (lv2 := [(0, .ref x), (1, .int a0), (2, .int a1), (3, .int x_3), (4, .int x25)]) rfl ?_
      exact hk_16 x_3 x25 A24 _ hO hQ
    · have hQ := hQ.2 c_118_1
      by_cases c_118_2 : r19 = (2 : Int32)
      · have hQ := hQ.1 c_118_2
        refine x_tableIn (off := (75 : Int)) (tgt := 193) d_L_rights_118 (by rw [c_118_2]; decide) (by rw [c_118_2]; decide) (by rw [c_118_2]; rfl) (by decide) ?_
        refine x_sub [0, 1, 2, 3, 4, 5] (lv2 := [(0, .ref x), (1, .int a0), (2, .int a1), (3, .int x_3), (4, .int x_4), (5, .int x_5)]) rfl ?_
        exact jt_L_rights_193 hd hk_16 x_3 x_4 x_5 y_A _ hO hQ
      · have hQ := hQ.2 c_118_2
        by_cases c_118_3 : r19 = (3 : Int32)
        · have hQ := hQ.1 c_118_3
          refine x_tableIn (off := (75 : Int)) (tgt := 193) d_L_rights_118 (by rw [c_118_3]; decide) (by rw [c_118_3]; decide) (by rw [c_118_3]; rfl) (by decide) ?_
          refine x_sub [0, 1, 2, 3, 4, 5] (lv2 := [(0, .ref x), (1, .int a0), (2, .int a1), (3, .int x_3), (4, .int x_4), (5, .int x_5)]) rfl ?_
          exact jt_L_rights_193 hd hk_16 x_3 x_4 x_5 y_A _ hO hQ
        · have hQ := hQ.2 c_118_3
          by_cases c_118_4 : r19 = (4 : Int32)
          · have hQ := hQ.1 c_118_4
            refine x_tableIn (off := (105 : Int)) (tgt := 223) d_L_rights_118 (by rw [c_118_4]; decide) (by rw [c_118_4]; decide) (by rw [c_118_4]; rfl) (by decide) ?_
            refine x_aload_n 0 d_L_rights_223 rfl rfl ?_
            refine x_bipush (v := (120 : Int32)) d_L_rights_224 (by decide) ?_
            refine x_iload 5 d_L_rights_226 rfl ?_
            refine x_iconst (v := (3 : Int32)) d_L_rights_228 (by decide) ?_
            refine x_invS (rest := [.int (120 : Int32), .ref x]) (d' := d - 1) (mc' := 0) (ms' := 0) [.int x_5, .int (3 : Int32)] k_L_low lk_L_9 rfl rfl (Nat.le_of_ble_eq_true rfl) (by omega) (Nat.le_of_ble_eq_true rfl) (Nat.le_of_ble_eq_true rfl) d_L_rights_229 ((sp_L_low (d := d - 1) (by omega) hQ).mono (fun r w2 hr => ?_))
            obtain ⟨r30, rfl, rfl, hQ⟩ := hr
            refine x_iadd d_L_rights_232 ?_
            refine x_bipush (v := (39 : Int32)) d_L_rights_233 (by decide) ?_
            refine x_bipush (v := (64 : Int32)) d_L_rights_235 (by decide) ?_
            refine x_bipush (v := (48 : Int32)) d_L_rights_237 (by decide) ?_
            refine x_iload 5 d_L_rights_239 rfl ?_
            refine x_iconst (v := (1 : Int32)) d_L_rights_241 (by decide) ?_
            refine x_ishr d_L_rights_242 ?_
            refine x_iconst (v := (3 : Int32)) d_L_rights_243 (by decide) ?_
            refine x_invS (rest := [.int (48 : Int32), .int (64 : Int32), .int (39 : Int32), .int ((120 : Int32) + r30), .ref x]) (d' := d - 1) (mc' := 0) (ms' := 0) [.int (x_5 >>> ((1 : Int32) &&& 31)), .int (3 : Int32)] k_L_low lk_L_9 rfl rfl (Nat.le_of_ble_eq_true rfl) (by omega) (Nat.le_of_ble_eq_true rfl) (Nat.le_of_ble_eq_true rfl) d_L_rights_244 ((sp_L_low (d := d - 1) (by omega) hQ).mono (fun r w2 hr => ?_))
            obtain ⟨r31, rfl, rfl, hQ⟩ := hr
            refine x_iadd d_L_rights_247 ?_
            refine x_invS (rest := []) (d' := d - 1) (mc' := 0) (ms' := 0) [.ref x, .int ((120 : Int32) + r30), .int (39 : Int32), .int (64 : Int32), .int ((48 : Int32) + r31)] k_L_types lk_L_82 rfl rfl (Nat.le_of_ble_eq_true rfl) (by omega) (Nat.le_of_ble_eq_true rfl) (Nat.le_of_ble_eq_true rfl) d_L_rights_248 ((sp_L_types (d := d - 1) (by omega) hO hQ).mono (fun r w2 hr => ?_))
            obtain ⟨A32, rfl, hO, hQ⟩ := hr
            refine x_goto (tgt := 263) d_L_rights_251 (by decide) ?_
            obtain ⟨x33, e_x33⟩ : ∃ z : Int32, z = x_4 + (1 : Int32) := ⟨_, rfl⟩
            have hQ := hQ x33 e_x33
            refine x_iinc (v := x33) (lv2 := [(4, .int x33), (0, .ref x), (1, .int a0), (2, .int a1), (3, .int x_3), (5, .int x_5)]) 4 d_L_rights_263 rfl (by rw [e_x33]; rfl) (by decide) rfl ?_
            refine x_goto (tgt := 16) d_L_rights_266 (by decide) ?_
            refine x_sub [1, 2, 3, 4, 0] (lv2 := [(0, .ref x), (1, .int a0), (2, .int a1), (3, .int x_3), (4, .int x33)]) rfl ?_
            exact hk_16 x_3 x33 A32 _ hO hQ
          · have hQ := hQ.2 c_118_4
            refine x_tableOut (tgt := 254) d_L_rights_118 (sw_out 0 4 r19 (fun v h1 h2 => by
                have h3 : v = 0 ∨ v = 1 ∨ v = 2 ∨ v = 3 ∨ v = 4 := by omega
                rcases h3 with rfl | rfl | rfl | rfl | rfl <;> first | exact sw_ne c_118_0 (by decide) | exact sw_ne c_118_1 (by decide) | exact sw_ne c_118_2 (by decide) | exact sw_ne c_118_3 (by decide) | exact sw_ne c_118_4 (by decide))) (by decide) ?_
            refine x_aload_n 0 d_L_rights_254 rfl rfl ?_
            refine x_bipush (v := (116 : Int32)) d_L_rights_255 (by decide) ?_
            refine x_iconst (v := (0 : Int32)) d_L_rights_257 (by decide) ?_
            refine x_iconst (v := (0 : Int32)) d_L_rights_258 (by decide) ?_
            refine x_iconst (v := (0 : Int32)) d_L_rights_259 (by decide) ?_
            refine x_invS (rest := []) (d' := d - 1) (mc' := 0) (ms' := 0) [.ref x, .int (116 : Int32), .int (0 : Int32), .int (0 : Int32), .int (0 : Int32)] k_L_types lk_L_82 rfl rfl (Nat.le_of_ble_eq_true rfl) (by omega) (Nat.le_of_ble_eq_true rfl) (Nat.le_of_ble_eq_true rfl) d_L_rights_260 ((sp_L_types (d := d - 1) (by omega) hO hQ).mono (fun r w2 hr => ?_))
            obtain ⟨A34, rfl, hO, hQ⟩ := hr
            obtain ⟨x35, e_x35⟩ : ∃ z : Int32, z = x_4 + (1 : Int32) := ⟨_, rfl⟩
            have hQ := hQ x35 e_x35
            refine x_iinc (v := x35) (lv2 := [(4, .int x35), (0, .ref x), (1, .int a0), (2, .int a1), (3, .int x_3), (5, .int x_5)]) 4 d_L_rights_263 rfl (by rw [e_x35]; rfl) (by decide) rfl ?_
            refine x_goto (tgt := 16) d_L_rights_266 (by decide) ?_
            refine x_sub [1, 2, 3, 4, 0] (lv2 := [(0, .ref x), (1, .int a0), (2, .int a1), (3, .int x_3), (4, .int x35)]) rfl ?_
            exact hk_16 x_3 x35 A34 _ hO hQ
def jp_L_rights_88 (a0 : Int32) (a1 : Int32) (K : Int32 → AB → Prop) (k_16 : Int32 → Int32 → AB → Prop) (x_3 : Int32) (x_4 : Int32) (x_5 : Int32) (y_A : AB) : Prop := wp_L_low x_5 (7 : Int32) (fun (r17 : Int32) => ((¬ r17 = (6 : Int32) → jp_L_rights_109 a0 a1 K k_16 x_3 x_4 x_5 y_A) ∧ (r17 = (6 : Int32) → wp_L_types y_A (45 : Int32) (0 : Int32) (0 : Int32) (0 : Int32) (fun (A36 : AB) => jp_L_rights_109 a0 a1 K k_16 x_3 x_4 x_5 A36))))
set_option maxHeartbeats 4000000 in
theorem jt_L_rights_88 {G : GX} {l : Launch} {d x : Nat} {a0 : Int32} {a1 : Int32} {K : Int32 → AB → Prop} {k_16 : Int32 → Int32 → AB → Prop} (hd : 70 ≤ d) (hk_16 : ∀ (x_3 : Int32) (x_4 : Int32) (y_A : AB) (w : HW), OW w x y_A → k_16 x_3 x_4 y_A → X G l m_L_rights d 19 8122 0 0 16 [(0, .ref x), (1, .int a0), (2, .int a1), (3, .int x_3), (4, .int x_4)] [] w (fun r9 w2 => ∃ (r1 : Int32), ∃ (z_A : AB), r9 = some (.int r1) ∧ OW w2 x z_A ∧ K r1 z_A)) (x_3 : Int32) (x_4 : Int32) (x_5 : Int32) (y_A : AB) (w : HW) (hO : OW w x y_A) (hQ : jp_L_rights_88 a0 a1 K k_16 x_3 x_4 x_5 y_A) : X G l m_L_rights d 19 8122 0 0 88 [(0, .ref x), (1, .int a0), (2, .int a1), (3, .int x_3), (4, .int x_4), (5, .int x_5)] [] w (fun r9 w2 => ∃ (r1 : Int32), ∃ (z_A : AB), r9 = some (.int r1) ∧ OW w2 x z_A ∧ K r1 z_A) := by
  refine x_iload 5 d_L_rights_88 rfl ?_
  refine x_bipush (v := (7 : Int32)) d_L_rights_90 (by decide) ?_
  refine x_invS (rest := []) (d' := d - 1) (mc' := 0) (ms' := 0) [.int x_5, .int (7 : Int32)] k_L_low lk_L_9 rfl rfl (Nat.le_of_ble_eq_true rfl) (by omega) (Nat.le_of_ble_eq_true rfl) (Nat.le_of_ble_eq_true rfl) d_L_rights_92 ((sp_L_low (d := d - 1) (by omega) hQ).mono (fun r w2 hr => ?_))
  obtain ⟨r17, rfl, rfl, hQ⟩ := hr
  refine x_bipush (v := (6 : Int32)) d_L_rights_95 (by decide) ?_
  refine x_icmp_ne (tgt := 109) d_L_rights_97 (by decide) (fun c_97_18 => ?_) (fun c_97_18 => ?_)
  · have hQ := hQ.1 c_97_18
    refine x_sub [0, 1, 2, 3, 4, 5] (lv2 := [(0, .ref x), (1, .int a0), (2, .int a1), (3, .int x_3), (4, .int x_4), (5, .int x_5)]) rfl ?_
    exact jt_L_rights_109 hd hk_16 x_3 x_4 x_5 y_A _ hO hQ
  · have hQ := hQ.2 c_97_18
    refine x_aload_n 0 d_L_rights_100 rfl rfl ?_
    refine x_bipush (v := (45 : Int32)) d_L_rights_101 (by decide) ?_
    refine x_iconst (v := (0 : Int32)) d_L_rights_103 (by decide) ?_
    refine x_iconst (v := (0 : Int32)) d_L_rights_104 (by decide) ?_
    refine x_iconst (v := (0 : Int32)) d_L_rights_105 (by decide) ?_
    refine x_invS (rest := []) (d' := d - 1) (mc' := 0) (ms' := 0) [.ref x, .int (45 : Int32), .int (0 : Int32), .int (0 : Int32), .int (0 : Int32)] k_L_types lk_L_82 rfl rfl (Nat.le_of_ble_eq_true rfl) (by omega) (Nat.le_of_ble_eq_true rfl) (Nat.le_of_ble_eq_true rfl) d_L_rights_106 ((sp_L_types (d := d - 1) (by omega) hO hQ).mono (fun r w2 hr => ?_))
    obtain ⟨A36, rfl, hO, hQ⟩ := hr
    refine x_sub [0, 1, 2, 3, 4, 5] (lv2 := [(0, .ref x), (1, .int a0), (2, .int a1), (3, .int x_3), (4, .int x_4), (5, .int x_5)]) rfl ?_
    exact jt_L_rights_109 hd hk_16 x_3 x_4 x_5 A36 _ hO hQ
def jp_L_rights_82 (a0 : Int32) (a1 : Int32) (K : Int32 → AB → Prop) (k_16 : Int32 → Int32 → AB → Prop) (x_3 : Int32) (x_4 : Int32) (x_5 : Int32) (t_0 : Int32) (y_A : AB) : Prop := wp_L_types y_A t_0 (0 : Int32) (0 : Int32) (0 : Int32) (fun (A43 : AB) => jp_L_rights_88 a0 a1 K k_16 x_3 x_4 x_5 A43)
set_option maxHeartbeats 4000000 in
theorem jt_L_rights_82 {G : GX} {l : Launch} {d x : Nat} {a0 : Int32} {a1 : Int32} {K : Int32 → AB → Prop} {k_16 : Int32 → Int32 → AB → Prop} (hd : 70 ≤ d) (hk_16 : ∀ (x_3 : Int32) (x_4 : Int32) (y_A : AB) (w : HW), OW w x y_A → k_16 x_3 x_4 y_A → X G l m_L_rights d 19 8122 0 0 16 [(0, .ref x), (1, .int a0), (2, .int a1), (3, .int x_3), (4, .int x_4)] [] w (fun r9 w2 => ∃ (r1 : Int32), ∃ (z_A : AB), r9 = some (.int r1) ∧ OW w2 x z_A ∧ K r1 z_A)) (x_3 : Int32) (x_4 : Int32) (x_5 : Int32) (t_0 : Int32) (y_A : AB) (w : HW) (hO : OW w x y_A) (hQ : jp_L_rights_82 a0 a1 K k_16 x_3 x_4 x_5 t_0 y_A) : X G l m_L_rights d 19 8122 0 0 82 [(0, .ref x), (1, .int a0), (2, .int a1), (3, .int x_3), (4, .int x_4), (5, .int x_5)] [.int t_0, .ref x] w (fun r9 w2 => ∃ (r1 : Int32), ∃ (z_A : AB), r9 = some (.int r1) ∧ OW w2 x z_A ∧ K r1 z_A) := by
  refine x_iconst (v := (0 : Int32)) d_L_rights_82 (by decide) ?_
  refine x_iconst (v := (0 : Int32)) d_L_rights_83 (by decide) ?_
  refine x_iconst (v := (0 : Int32)) d_L_rights_84 (by decide) ?_
  refine x_invS (rest := []) (d' := d - 1) (mc' := 0) (ms' := 0) [.ref x, .int t_0, .int (0 : Int32), .int (0 : Int32), .int (0 : Int32)] k_L_types lk_L_82 rfl rfl (Nat.le_of_ble_eq_true rfl) (by omega) (Nat.le_of_ble_eq_true rfl) (Nat.le_of_ble_eq_true rfl) d_L_rights_85 ((sp_L_types (d := d - 1) (by omega) hO hQ).mono (fun r w2 hr => ?_))
  obtain ⟨A43, rfl, hO, hQ⟩ := hr
  refine x_sub [0, 1, 2, 3, 4, 5] (lv2 := [(0, .ref x), (1, .int a0), (2, .int a1), (3, .int x_3), (4, .int x_4), (5, .int x_5)]) rfl ?_
  exact jt_L_rights_88 hd hk_16 x_3 x_4 x_5 A43 _ hO hQ
def lp_L_rights_16 (a0 : Int32) (a1 : Int32) (K : Int32 → AB → Prop) : Nat → Int32 → Int32 → AB → Prop
  | 0, _, _, _ => False
  | n + 1, x_3, x_4, y_A => ((x_3 ≤ x_4 → wp_L_low (a1 >>> ((7 : Int32) &&& 31)) (9 : Int32) (fun (r5 : Int32) => ((¬ r5 = (0 : Int32) → jp_L_rights_290 a0 a1 K y_A) ∧ (r5 = (0 : Int32) → wp_L_types y_A (42 : Int32) (0 : Int32) (0 : Int32) (0 : Int32) (fun (A14 : AB) => jp_L_rights_290 a0 a1 K A14))))) ∧ (¬ x_3 ≤ x_4 → ∀ x15 : Int32, x15 = a0 >>> (((5 : Int32) * x_4) &&& 31) → ((x_4 ≤ (0 : Int32) → jp_L_rights_88 a0 a1 K (fun v0 v1 v2 => lp_L_rights_16 a0 a1 K n v0 v1 v2) x_3 x_4 x15 y_A) ∧ (¬ x_4 ≤ (0 : Int32) → wp_L_low x15 (4 : Int32) (fun (r37 : Int32) => ((¬ r37 = (0 : Int32) → wp_L_low x15 (4 : Int32) (fun (r39 : Int32) => ((¬ r39 = (1 : Int32) → wp_L_low x15 (4 : Int32) (fun (r41 : Int32) => ((¬ r41 = (2 : Int32) → jp_L_rights_82 a0 a1 K (fun v0 v1 v2 => lp_L_rights_16 a0 a1 K n v0 v1 v2) x_3 x_4 x15 (43 : Int32) y_A) ∧ (r41 = (2 : Int32) → jp_L_rights_82 a0 a1 K (fun v0 v1 v2 => lp_L_rights_16 a0 a1 K n v0 v1 v2) x_3 x_4 x15 (47 : Int32) y_A)))) ∧ (r39 = (1 : Int32) → jp_L_rights_82 a0 a1 K (fun v0 v1 v2 => lp_L_rights_16 a0 a1 K n v0 v1 v2) x_3 x_4 x15 (42 : Int32) y_A)))) ∧ (r37 = (0 : Int32) → jp_L_rights_82 a0 a1 K (fun v0 v1 v2 => lp_L_rights_16 a0 a1 K n v0 v1 v2) x_3 x_4 x15 (45 : Int32) y_A)))))))
set_option maxHeartbeats 4000000 in
theorem jt_L_rights_16 {G : GX} {l : Launch} {d x : Nat} {a0 : Int32} {a1 : Int32} {K : Int32 → AB → Prop} (hd : 70 ≤ d) : ∀ (n : Nat) (x_3 : Int32) (x_4 : Int32) (y_A : AB) (w : HW), OW w x y_A → lp_L_rights_16 a0 a1 K n x_3 x_4 y_A → X G l m_L_rights d 19 8122 0 0 16 [(0, .ref x), (1, .int a0), (2, .int a1), (3, .int x_3), (4, .int x_4)] [] w (fun r9 w2 => ∃ (r1 : Int32), ∃ (z_A : AB), r9 = some (.int r1) ∧ OW w2 x z_A ∧ K r1 z_A) := by
  intro n
  induction n with
  | zero =>
    intro x_3 x_4 y_A w hO hQ
    exact hQ.elim
  | succ n ih =>
    intro x_3 x_4 y_A w hO hQ
    refine x_iload 4 d_L_rights_16 rfl ?_
    refine x_iload_n 3 d_L_rights_18 rfl rfl ?_
    refine x_icmp_ge (tgt := 269) d_L_rights_19 (by decide) (fun c_19_4 => ?_) (fun c_19_4 => ?_)
    · have hQ := hQ.1 c_19_4
      refine x_iload_n 2 d_L_rights_269 rfl rfl ?_
      refine x_bipush (v := (7 : Int32)) d_L_rights_270 (by decide) ?_
      refine x_ishr d_L_rights_272 ?_
      refine x_bipush (v := (9 : Int32)) d_L_rights_273 (by decide) ?_
      refine x_invS (rest := []) (d' := d - 1) (mc' := 0) (ms' := 0) [.int (a1 >>> ((7 : Int32) &&& 31)), .int (9 : Int32)] k_L_low lk_L_9 rfl rfl (Nat.le_of_ble_eq_true rfl) (by omega) (Nat.le_of_ble_eq_true rfl) (Nat.le_of_ble_eq_true rfl) d_L_rights_275 ((sp_L_low (d := d - 1) (by omega) hQ).mono (fun r w2 hr => ?_))
      obtain ⟨r5, rfl, rfl, hQ⟩ := hr
      refine x_if_ne (tgt := 290) d_L_rights_278 (by decide) (fun c_278_6 => ?_) (fun c_278_6 => ?_)
      · have hQ := hQ.1 c_278_6
        refine x_sub [0, 2] (lv2 := [(0, .ref x), (2, .int a1)]) rfl ?_
        exact jt_L_rights_290 hd y_A _ hO hQ
      · have hQ := hQ.2 c_278_6
        refine x_aload_n 0 d_L_rights_281 rfl rfl ?_
        refine x_bipush (v := (42 : Int32)) d_L_rights_282 (by decide) ?_
        refine x_iconst (v := (0 : Int32)) d_L_rights_284 (by decide) ?_
        refine x_iconst (v := (0 : Int32)) d_L_rights_285 (by decide) ?_
        refine x_iconst (v := (0 : Int32)) d_L_rights_286 (by decide) ?_
        refine x_invS (rest := []) (d' := d - 1) (mc' := 0) (ms' := 0) [.ref x, .int (42 : Int32), .int (0 : Int32), .int (0 : Int32), .int (0 : Int32)] k_L_types lk_L_82 rfl rfl (Nat.le_of_ble_eq_true rfl) (by omega) (Nat.le_of_ble_eq_true rfl) (Nat.le_of_ble_eq_true rfl) d_L_rights_287 ((sp_L_types (d := d - 1) (by omega) hO hQ).mono (fun r w2 hr => ?_))
        obtain ⟨A14, rfl, hO, hQ⟩ := hr
        refine x_sub [0, 2] (lv2 := [(0, .ref x), (2, .int a1)]) rfl ?_
        exact jt_L_rights_290 hd A14 _ hO hQ
    · have hQ := hQ.2 c_19_4
      refine x_iload_n 1 d_L_rights_22 rfl rfl ?_
      refine x_iconst (v := (5 : Int32)) d_L_rights_23 (by decide) ?_
      refine x_iload 4 d_L_rights_24 rfl ?_
      refine x_imul d_L_rights_26 ?_
      refine x_ishr d_L_rights_27 ?_
      refine x_topi (fun x15 e_x15 => ?_)
      have hQ := hQ x15 e_x15
      refine x_istore (lv2 := [(5, .int x15), (0, .ref x), (1, .int a0), (2, .int a1), (3, .int x_3), (4, .int x_4)]) d_L_rights_28 (by decide) rfl ?_
      refine x_iload 5 d_L_rights_30 rfl ?_
      refine x_if_le (tgt := 88) d_L_rights_32 (by decide) (fun c_32_16 => ?_) (fun c_32_16 => ?_)
      · have hQ := hQ.1 c_32_16
        refine x_sub [1, 2, 3, 4, 5, 0] (lv2 := [(0, .ref x), (1, .int a0), (2, .int a1), (3, .int x_3), (4, .int x_4), (5, .int x15)]) rfl ?_
        exact jt_L_rights_88 hd ih x_3 x_4 x15 y_A _ hO hQ
      · have hQ := hQ.2 c_32_16
        refine x_aload_n 1 d_L_rights_35 rfl rfl ?_
        refine x_iload 0 d_L_rights_36 rfl ?_
        refine x_iconst (v := (4 : Int32)) d_L_rights_38 (by decide) ?_
        refine x_invS (rest := [.ref x]) (d' := d - 1) (mc' := 0) (ms' := 0) [.int x15, .int (4 : Int32)] k_L_low lk_L_9 rfl rfl (Nat.le_of_ble_eq_true rfl) (by omega) (Nat.le_of_ble_eq_true rfl) (Nat.le_of_ble_eq_true rfl) d_L_rights_39 ((sp_L_low (d := d - 1) (by omega) hQ).mono (fun r w2 hr => ?_))
        obtain ⟨r37, rfl, rfl, hQ⟩ := hr
        refine x_if_ne (tgt := 50) d_L_rights_42 (by decide) (fun c_42_38 => ?_) (fun c_42_38 => ?_)
        · have hQ := hQ.1 c_42_38
          refine x_iload 0 d_L_rights_50 rfl ?_
          refine x_iconst (v := (4 : Int32)) d_L_rights_52 (by decide) ?_
          refine x_invS (rest := [.ref x]) (d' := d - 1) (mc' := 0) (ms' := 0) [.int x15, .int (4 : Int32)] k_L_low lk_L_9 rfl rfl (Nat.le_of_ble_eq_true rfl) (by omega) (Nat.le_of_ble_eq_true rfl) (Nat.le_of_ble_eq_true rfl) d_L_rights_53 ((sp_L_low (d := d - 1) (by omega) hQ).mono (fun r w2 hr => ?_))
          obtain ⟨r39, rfl, rfl, hQ⟩ := hr
          refine x_iconst (v := (1 : Int32)) d_L_rights_56 (by decide) ?_
          refine x_icmp_ne (tgt := 65) d_L_rights_57 (by decide) (fun c_57_40 => ?_) (fun c_57_40 => ?_)
          · have hQ := hQ.1 c_57_40
            refine x_iload 0 d_L_rights_65 rfl ?_
            refine x_iconst (v := (4 : Int32)) d_L_rights_67 (by decide) ?_
            refine x_invS (rest := [.ref x]) (d' := d - 1) (mc' := 0) (ms' := 0) [.int x15, .int (4 : Int32)] k_L_low lk_L_9 rfl rfl (Nat.le_of_ble_eq_true rfl) (by omega) (Nat.le_of_ble_eq_true rfl) (Nat.le_of_ble_eq_true rfl) d_L_rights_68 ((sp_L_low (d := d - 1) (by omega) hQ).mono (fun r w2 hr => ?_))
            obtain ⟨r41, rfl, rfl, hQ⟩ := hr
            refine x_iconst (v := (2 : Int32)) d_L_rights_71 (by decide) ?_
            refine x_icmp_ne (tgt := 80) d_L_rights_72 (by decide) (fun c_72_42 => ?_) (fun c_72_42 => ?_)
            · have hQ := hQ.1 c_72_42
              refine x_bipush (v := (43 : Int32)) d_L_rights_80 (by decide) ?_
              refine x_sub [1, 2, 3, 4, 5, 0] (lv2 := [(0, .ref x), (1, .int a0), (2, .int a1), (3, .int x_3), (4, .int x_4), (5, .int x15)]) rfl ?_
              exact jt_L_rights_82 hd ih x_3 x_4 x15 (43 : Int32) y_A _ hO hQ
            · have hQ := hQ.2 c_72_42
              refine x_bipush (v := (47 : Int32)) d_L_rights_75 (by decide) ?_
              refine x_goto (tgt := 82) d_L_rights_77 (by decide) ?_
              refine x_sub [1, 2, 3, 4, 5, 0] (lv2 := [(0, .ref x), (1, .int a0), (2, .int a1), (3, .int x_3), (4, .int x_4), (5, .int x15)]) rfl ?_
              exact jt_L_rights_82 hd ih x_3 x_4 x15 (47 : Int32) y_A _ hO hQ
          · have hQ := hQ.2 c_57_40
            refine x_bipush (v := (42 : Int32)) d_L_rights_60 (by decide) ?_
            refine x_goto (tgt := 82) d_L_rights_62 (by decide) ?_
            refine x_sub [1, 2, 3, 4, 5, 0] (lv2 := [(0, .ref x), (1, .int a0), (2, .int a1), (3, .int x_3), (4, .int x_4), (5, .int x15)]) rfl ?_
            exact jt_L_rights_82 hd ih x_3 x_4 x15 (42 : Int32) y_A _ hO hQ
        · have hQ := hQ.2 c_42_38
          refine x_bipush (v := (45 : Int32)) d_L_rights_45 (by decide) ?_
          refine x_goto (tgt := 82) d_L_rights_47 (by decide) ?_
          refine x_sub [1, 2, 3, 4, 5, 0] (lv2 := [(0, .ref x), (1, .int a0), (2, .int a1), (3, .int x_3), (4, .int x_4), (5, .int x15)]) rfl ?_
          exact jt_L_rights_82 hd ih x_3 x_4 x15 (45 : Int32) y_A _ hO hQ
def wp_L_rights (A : AB) (a0 : Int32) (a1 : Int32) (K : Int32 → AB → Prop) : Prop := ∀ r1 : Int32, wp_L_low a1 (4 : Int32) (fun (r2 : Int32) => ∀ x3 : Int32, x3 = (1 : Int32) + r2 → ∃ m : Nat, lp_L_rights_16 a0 a1 K m x3 (0 : Int32) A)
set_option maxHeartbeats 4000000 in
theorem sp_L_rights {G : GX} {l : Launch} {d x : Nat} {w : HW} {A : AB} {a0 : Int32} {a1 : Int32} {K : Int32 → AB → Prop} (hd : 70 ≤ d) (hO : OW w x A) (hQ : wp_L_rights A a0 a1 K) : Sp G l m_L_rights d 19 8122 [.ref x, .int a0, .int a1] w (fun r9 w2 => ∃ (r1 : Int32), ∃ (z_A : AB), r9 = some (.int r1) ∧ OW w2 x z_A ∧ K r1 z_A) := by
  refine Sp.ofX k_L_rights.1.1 (Nat.le_of_ble_eq_true rfl) ?_
  refine X.lv (lv2 := [(0, .ref x), (1, .int a0), (2, .int a1)]) rfl ?_
  refine x_aload_n 0 d_L_rights_0 rfl rfl ?_
  refine x_invV (rest := []) (d' := d - 1) (mc' := 0) (ms' := 0) [] k_X9_wipe lk_L_78 (OWx hO) rfl rfl rfl (Nat.le_of_ble_eq_true rfl) (by omega) (Nat.le_of_ble_eq_true rfl) (Nat.le_of_ble_eq_true rfl) d_L_rights_1 ((sw_wipe (d := d - 1) (by omega) hO).mono (fun r w2 hr => ?_))
  obtain ⟨r1, rfl, hO⟩ := hr
  have hQ := hQ r1
  refine x_pop d_L_rights_4 rfl ?_
  refine x_iconst (v := (1 : Int32)) d_L_rights_5 (by decide) ?_
  refine x_iload_n 2 d_L_rights_6 rfl rfl ?_
  refine x_iconst (v := (4 : Int32)) d_L_rights_7 (by decide) ?_
  refine x_invS (rest := [.int (1 : Int32)]) (d' := d - 1) (mc' := 0) (ms' := 0) [.int a1, .int (4 : Int32)] k_L_low lk_L_9 rfl rfl (Nat.le_of_ble_eq_true rfl) (by omega) (Nat.le_of_ble_eq_true rfl) (Nat.le_of_ble_eq_true rfl) d_L_rights_8 ((sp_L_low (d := d - 1) (by omega) hQ).mono (fun r w2 hr => ?_))
  obtain ⟨r2, rfl, rfl, hQ⟩ := hr
  refine x_iadd d_L_rights_11 ?_
  refine x_topi (fun x3 e_x3 => ?_)
  have hQ := hQ x3 e_x3
  refine x_istore_n (lv2 := [(3, .int x3), (0, .ref x), (1, .int a0), (2, .int a1)]) d_L_rights_12 rfl (by decide) rfl ?_
  refine x_iconst (v := (0 : Int32)) d_L_rights_13 (by decide) ?_
  refine x_istore (lv2 := [(4, .int (0 : Int32)), (3, .int x3), (0, .ref x), (1, .int a0), (2, .int a1)]) d_L_rights_14 (by decide) rfl ?_
  refine x_sub [2, 3, 4, 1, 0] (lv2 := [(0, .ref x), (1, .int a0), (2, .int a1), (3, .int x3), (4, .int (0 : Int32))]) rfl ?_
  obtain ⟨m, hQ⟩ := hQ
  exact jt_L_rights_16 hd m x3 (0 : Int32) A _ hO hQ
def jp_L_goes_64 (a0 : Int32) (a1 : Int32) (K : Int32 → AB → Prop) (y_A : AB) : Prop := wp_L_rights y_A (a0 >>> ((3 : Int32) &&& 31)) a1 (fun (r2 : Int32) (A3 : AB) => K r2 A3)
set_option maxHeartbeats 4000000 in
theorem jt_L_goes_64 {G : GX} {l : Launch} {d x : Nat} {a0 : Int32} {a1 : Int32} {K : Int32 → AB → Prop} (hd : 71 ≤ d) (y_A : AB) (w : HW) (hO : OW w x y_A) (hQ : jp_L_goes_64 a0 a1 K y_A) : X G l m_L_goes d 19 8122 0 0 64 [(0, .ref x), (1, .int a0), (2, .int a1)] [] w (fun r9 w2 => ∃ (r1 : Int32), ∃ (z_A : AB), r9 = some (.int r1) ∧ OW w2 x z_A ∧ K r1 z_A) := by
  refine x_aload_n 0 d_L_goes_64 rfl rfl ?_
  refine x_iload_n 1 d_L_goes_65 rfl rfl ?_
  refine x_iconst (v := (3 : Int32)) d_L_goes_66 (by decide) ?_
  refine x_ishr d_L_goes_67 ?_
  refine x_iload_n 2 d_L_goes_68 rfl rfl ?_
  refine x_invS (rest := []) (d' := d - 1) (mc' := 19) (ms' := 8122) [.ref x, .int (a0 >>> ((3 : Int32) &&& 31)), .int a1] k_L_rights lk_L_96 rfl rfl (Nat.le_of_ble_eq_true rfl) (by omega) (Nat.le_of_ble_eq_true rfl) (Nat.le_of_ble_eq_true rfl) d_L_goes_69 ((sp_L_rights (d := d - 1) (by omega) hO hQ).mono (fun r w2 hr => ?_))
  obtain ⟨r2, A3, rfl, hO, hQ⟩ := hr
  exact x_iret (retI d_L_goes_72 rfl) ⟨_, _, rfl, hO, hQ⟩
def jp_L_goes_111 (a0 : Int32) (a1 : Int32) (K : Int32 → AB → Prop) (t_0 : Int32) (t_1 : Int32) (y_A : AB) : Prop := wp_L_near (a0 >>> ((5 : Int32) &&& 31)) (3 : Int32) (fun (r8 : Int32) => ((¬ r8 = (0 : Int32) → ∀ (r10 : Int32) (A11 : AB), RelC y_A r10 A11 → AOK A11 → K r10 A11) ∧ (r8 = (0 : Int32) → wp_L_low a1 (1801 : Int32) (fun (r12 : Int32) => ∀ (r13 : Int32) (A14 : AB), RelC y_A r13 A14 → AOK A14 → K r13 A14))))
set_option maxHeartbeats 4000000 in
theorem jt_L_goes_111 {G : GX} {l : Launch} {d x : Nat} {a0 : Int32} {a1 : Int32} {K : Int32 → AB → Prop} (hd : 71 ≤ d) (t_0 : Int32) (t_1 : Int32) (y_A : AB) (w : HW) (hO : OW w x y_A) (hQ : jp_L_goes_111 a0 a1 K t_0 t_1 y_A) : X G l m_L_goes d 19 8122 0 0 111 [(1, .int a0), (2, .int a1)] [.int t_0, .int t_1, .ref x] w (fun r9 w2 => ∃ (r1 : Int32), ∃ (z_A : AB), r9 = some (.int r1) ∧ OW w2 x z_A ∧ K r1 z_A) := by
  refine x_iload_n 0 d_L_goes_111 rfl rfl ?_
  refine x_iconst (v := (5 : Int32)) d_L_goes_112 (by decide) ?_
  refine x_ishr d_L_goes_113 ?_
  refine x_iconst (v := (3 : Int32)) d_L_goes_114 (by decide) ?_
  refine x_invS (rest := [.int t_0, .int t_1, .ref x]) (d' := d - 1) (mc' := 0) (ms' := 0) [.int (a0 >>> ((5 : Int32) &&& 31)), .int (3 : Int32)] k_L_near lk_L_89 rfl rfl (Nat.le_of_ble_eq_true rfl) (by omega) (Nat.le_of_ble_eq_true rfl) (Nat.le_of_ble_eq_true rfl) d_L_goes_115 ((sp_L_near (d := d - 1) (by omega) hQ).mono (fun r w2 hr => ?_))
  obtain ⟨r8, rfl, rfl, hQ⟩ := hr
  refine x_if_ne (tgt := 135) d_L_goes_118 (by decide) (fun c_118_9 => ?_) (fun c_118_9 => ?_)
  · have hQ := hQ.1 c_118_9
    refine x_iconst (v := (0 : Int32)) d_L_goes_135 (by decide) ?_
    refine x_invV (rest := []) (d' := d - 1) (mc' := 19) (ms' := 8122) [.int t_1, .int t_0, .int (0 : Int32)] k_X9_delay lk_L_100 (OWx hO) rfl rfl rfl (Nat.le_of_ble_eq_true rfl) (by omega) (Nat.le_of_ble_eq_true rfl) (Nat.le_of_ble_eq_true rfl) d_L_goes_136 ((sw_delay (d := d - 1) (by omega) hO).mono (fun r w2 hr => ?_))
    obtain ⟨r10, A11, rfl, hO, hR⟩ := hr
    have hQ := hQ r10 A11 hR hO.1
    exact x_iret (retI d_L_goes_139 rfl) ⟨_, _, rfl, hO, hQ⟩
  · have hQ := hQ.2 c_118_9
    refine x_iload_n 1 d_L_goes_121 rfl rfl ?_
    refine x_sipush (v := (1801 : Int32)) d_L_goes_122 (by decide) ?_
    refine x_invS (rest := [.int t_0, .int t_1, .ref x]) (d' := d - 1) (mc' := 0) (ms' := 0) [.int a1, .int (1801 : Int32)] k_L_low lk_L_9 rfl rfl (Nat.le_of_ble_eq_true rfl) (by omega) (Nat.le_of_ble_eq_true rfl) (Nat.le_of_ble_eq_true rfl) d_L_goes_125 ((sp_L_low (d := d - 1) (by omega) hQ).mono (fun r w2 hr => ?_))
    obtain ⟨r12, rfl, rfl, hQ⟩ := hr
    refine x_sipush (v := (900 : Int32)) d_L_goes_128 (by decide) ?_
    refine x_isub d_L_goes_131 ?_
    refine x_goto (tgt := 136) d_L_goes_132 (by decide) ?_
    refine x_invV (rest := []) (d' := d - 1) (mc' := 19) (ms' := 8122) [.int t_1, .int t_0, .int (r12 - (900 : Int32))] k_X9_delay lk_L_100 (OWx hO) rfl rfl rfl (Nat.le_of_ble_eq_true rfl) (by omega) (Nat.le_of_ble_eq_true rfl) (Nat.le_of_ble_eq_true rfl) d_L_goes_136 ((sw_delay (d := d - 1) (by omega) hO).mono (fun r w2 hr => ?_))
    obtain ⟨r13, A14, rfl, hO, hR⟩ := hr
    have hQ := hQ r13 A14 hR hO.1
    exact x_iret (retI d_L_goes_139 rfl) ⟨_, _, rfl, hO, hQ⟩
def jp_L_goes_166 (a0 : Int32) (a1 : Int32) (K : Int32 → AB → Prop) (t_0 : Int32) (t_1 : Int32) (t_2 : Int32) (y_A : AB) : Prop := wp_L_low t_1 t_0 (fun (r19 : Int32) => wp_L_low (a1 >>> ((3 : Int32) &&& 31)) (9 : Int32) (fun (r20 : Int32) => ((¬ r20 = (0 : Int32) → wp_L_low (a1 >>> ((5 : Int32) &&& 31)) (4001 : Int32) (fun (r22 : Int32) => ∀ (r23 : Int32) (A24 : AB), RelC y_A r23 A24 → AOK A24 → K r23 A24)) ∧ (r20 = (0 : Int32) → ∀ (r25 : Int32) (A26 : AB), RelC y_A r25 A26 → AOK A26 → K r25 A26))))
set_option maxHeartbeats 4000000 in
theorem jt_L_goes_166 {G : GX} {l : Launch} {d x : Nat} {a0 : Int32} {a1 : Int32} {K : Int32 → AB → Prop} (hd : 71 ≤ d) (t_0 : Int32) (t_1 : Int32) (t_2 : Int32) (y_A : AB) (w : HW) (hO : OW w x y_A) (hQ : jp_L_goes_166 a0 a1 K t_0 t_1 t_2 y_A) : X G l m_L_goes d 19 8122 0 0 166 [(2, .int a1)] [.int t_0, .int t_1, .int t_2, .ref x] w (fun r9 w2 => ∃ (r1 : Int32), ∃ (z_A : AB), r9 = some (.int r1) ∧ OW w2 x z_A ∧ K r1 z_A) := by
  refine x_invS (rest := [.int t_2, .ref x]) (d' := d - 1) (mc' := 0) (ms' := 0) [.int t_1, .int t_0] k_L_low lk_L_9 rfl rfl (Nat.le_of_ble_eq_true rfl) (by omega) (Nat.le_of_ble_eq_true rfl) (Nat.le_of_ble_eq_true rfl) d_L_goes_166 ((sp_L_low (d := d - 1) (by omega) hQ).mono (fun r w2 hr => ?_))
  obtain ⟨r19, rfl, rfl, hQ⟩ := hr
  refine x_ineg d_L_goes_169 ?_
  refine x_iload_n 0 d_L_goes_170 rfl rfl ?_
  refine x_iconst (v := (3 : Int32)) d_L_goes_171 (by decide) ?_
  refine x_ishr d_L_goes_172 ?_
  refine x_bipush (v := (9 : Int32)) d_L_goes_173 (by decide) ?_
  refine x_invS (rest := [.int (-r19), .int t_2, .ref x]) (d' := d - 1) (mc' := 0) (ms' := 0) [.int (a1 >>> ((3 : Int32) &&& 31)), .int (9 : Int32)] k_L_low lk_L_9 rfl rfl (Nat.le_of_ble_eq_true rfl) (by omega) (Nat.le_of_ble_eq_true rfl) (Nat.le_of_ble_eq_true rfl) d_L_goes_175 ((sp_L_low (d := d - 1) (by omega) hQ).mono (fun r w2 hr => ?_))
  obtain ⟨r20, rfl, rfl, hQ⟩ := hr
  refine x_if_ne (tgt := 185) d_L_goes_178 (by decide) (fun c_178_21 => ?_) (fun c_178_21 => ?_)
  · have hQ := hQ.1 c_178_21
    refine x_iload_n 0 d_L_goes_185 rfl rfl ?_
    refine x_iconst (v := (5 : Int32)) d_L_goes_186 (by decide) ?_
    refine x_ishr d_L_goes_187 ?_
    refine x_sipush (v := (4001 : Int32)) d_L_goes_188 (by decide) ?_
    refine x_invS (rest := [.int (-r19), .int t_2, .ref x]) (d' := d - 1) (mc' := 0) (ms' := 0) [.int (a1 >>> ((5 : Int32) &&& 31)), .int (4001 : Int32)] k_L_low lk_L_9 rfl rfl (Nat.le_of_ble_eq_true rfl) (by omega) (Nat.le_of_ble_eq_true rfl) (Nat.le_of_ble_eq_true rfl) d_L_goes_191 ((sp_L_low (d := d - 1) (by omega) hQ).mono (fun r w2 hr => ?_))
    obtain ⟨r22, rfl, rfl, hQ⟩ := hr
    refine x_sipush (v := (2000 : Int32)) d_L_goes_194 (by decide) ?_
    refine x_isub d_L_goes_197 ?_
    refine x_invV (rest := []) (d' := d - 1) (mc' := 19) (ms' := 8122) [.int t_2, .int (-r19), .int (r22 - (2000 : Int32))] k_X9_point lk_L_103 (OWx hO) rfl rfl rfl (Nat.le_of_ble_eq_true rfl) (by omega) (Nat.le_of_ble_eq_true rfl) (Nat.le_of_ble_eq_true rfl) d_L_goes_198 ((sw_point (d := d - 1) (by omega) hO).mono (fun r w2 hr => ?_))
    obtain ⟨r23, A24, rfl, hO, hR⟩ := hr
    have hQ := hQ r23 A24 hR hO.1
    exact x_iret (retI d_L_goes_201 rfl) ⟨_, _, rfl, hO, hQ⟩
  · have hQ := hQ.2 c_178_21
    refine x_iload_n 0 d_L_goes_181 rfl rfl ?_
    refine x_goto (tgt := 198) d_L_goes_182 (by decide) ?_
    refine x_invV (rest := []) (d' := d - 1) (mc' := 19) (ms' := 8122) [.int t_2, .int (-r19), .int a1] k_X9_point lk_L_103 (OWx hO) rfl rfl rfl (Nat.le_of_ble_eq_true rfl) (by omega) (Nat.le_of_ble_eq_true rfl) (Nat.le_of_ble_eq_true rfl) d_L_goes_198 ((sw_point (d := d - 1) (by omega) hO).mono (fun r w2 hr => ?_))
    obtain ⟨r25, A26, rfl, hO, hR⟩ := hr
    have hQ := hQ r25 A26 hR hO.1
    exact x_iret (retI d_L_goes_201 rfl) ⟨_, _, rfl, hO, hQ⟩
def jp_L_goes_140 (a0 : Int32) (a1 : Int32) (K : Int32 → AB → Prop) (y_A : AB) : Prop := wp_L_near a1 (3 : Int32) (fun (r16 : Int32) => wp_L_low a1 (3 : Int32) (fun (r17 : Int32) => ((¬ r17 = (0 : Int32) → jp_L_goes_166 a0 a1 K (400 : Int32) (a0 >>> ((5 : Int32) &&& 31)) r16 y_A) ∧ (r17 = (0 : Int32) → jp_L_goes_166 a0 a1 K (10001 : Int32) (a0 >>> ((5 : Int32) &&& 31)) r16 y_A))))
set_option maxHeartbeats 4000000 in
theorem jt_L_goes_140 {G : GX} {l : Launch} {d x : Nat} {a0 : Int32} {a1 : Int32} {K : Int32 → AB → Prop} (hd : 71 ≤ d) (y_A : AB) (w : HW) (hO : OW w x y_A) (hQ : jp_L_goes_140 a0 a1 K y_A) : X G l m_L_goes d 19 8122 0 0 140 [(0, .ref x), (1, .int a0), (2, .int a1)] [] w (fun r9 w2 => ∃ (r1 : Int32), ∃ (z_A : AB), r9 = some (.int r1) ∧ OW w2 x z_A ∧ K r1 z_A) := by
  refine x_aload_n 0 d_L_goes_140 rfl rfl ?_
  refine x_iload_n 2 d_L_goes_141 rfl rfl ?_
  refine x_iconst (v := (3 : Int32)) d_L_goes_142 (by decide) ?_
  refine x_invS (rest := [.ref x]) (d' := d - 1) (mc' := 0) (ms' := 0) [.int a1, .int (3 : Int32)] k_L_near lk_L_89 rfl rfl (Nat.le_of_ble_eq_true rfl) (by omega) (Nat.le_of_ble_eq_true rfl) (Nat.le_of_ble_eq_true rfl) d_L_goes_143 ((sp_L_near (d := d - 1) (by omega) hQ).mono (fun r w2 hr => ?_))
  obtain ⟨r16, rfl, rfl, hQ⟩ := hr
  refine x_iload_n 1 d_L_goes_146 rfl rfl ?_
  refine x_iconst (v := (5 : Int32)) d_L_goes_147 (by decide) ?_
  refine x_ishr d_L_goes_148 ?_
  refine x_iload_n 2 d_L_goes_149 rfl rfl ?_
  refine x_iconst (v := (3 : Int32)) d_L_goes_150 (by decide) ?_
  refine x_invS (rest := [.int (a0 >>> ((5 : Int32) &&& 31)), .int r16, .ref x]) (d' := d - 1) (mc' := 0) (ms' := 0) [.int a1, .int (3 : Int32)] k_L_low lk_L_9 rfl rfl (Nat.le_of_ble_eq_true rfl) (by omega) (Nat.le_of_ble_eq_true rfl) (Nat.le_of_ble_eq_true rfl) d_L_goes_151 ((sp_L_low (d := d - 1) (by omega) hQ).mono (fun r w2 hr => ?_))
  obtain ⟨r17, rfl, rfl, hQ⟩ := hr
  refine x_if_ne (tgt := 163) d_L_goes_154 (by decide) (fun c_154_18 => ?_) (fun c_154_18 => ?_)
  · have hQ := hQ.1 c_154_18
    refine x_sipush (v := (400 : Int32)) d_L_goes_163 (by decide) ?_
    refine x_sub [2] (lv2 := [(2, .int a1)]) rfl ?_
    exact jt_L_goes_166 hd (400 : Int32) (a0 >>> ((5 : Int32) &&& 31)) r16 y_A _ hO hQ
  · have hQ := hQ.2 c_154_18
    refine x_sipush (v := (10001 : Int32)) d_L_goes_157 (by decide) ?_
    refine x_goto (tgt := 166) d_L_goes_160 (by decide) ?_
    refine x_sub [2] (lv2 := [(2, .int a1)]) rfl ?_
    exact jt_L_goes_166 hd (10001 : Int32) (a0 >>> ((5 : Int32) &&& 31)) r16 y_A _ hO hQ
def jp_L_goes_276 (a0 : Int32) (a1 : Int32) (K : Int32 → AB → Prop) (y_A : AB) : Prop := wp_L_near a1 (9 : Int32) (fun (r46 : Int32) => ((¬ r46 = (0 : Int32) → wp_L_low (a0 >>> ((4 : Int32) &&& 31)) (300 : Int32) (fun (r48 : Int32) => aj y_A < 512 ∧ ∀ (r49 : Int32) (A50 : AB), RelC y_A r49 A50 → AOK A50 → K r49 A50)) ∧ (r46 = (0 : Int32) → wp_L_near (a0 >>> ((4 : Int32) &&& 31)) (2001 : Int32) (fun (r51 : Int32) => aj y_A < 512 ∧ ∀ (r52 : Int32) (A53 : AB), RelC y_A r52 A53 → AOK A53 → K r52 A53))))
set_option maxHeartbeats 4000000 in
theorem jt_L_goes_276 {G : GX} {l : Launch} {d x : Nat} {a0 : Int32} {a1 : Int32} {K : Int32 → AB → Prop} (hd : 71 ≤ d) (y_A : AB) (w : HW) (hO : OW w x y_A) (hQ : jp_L_goes_276 a0 a1 K y_A) : X G l m_L_goes d 19 8122 0 0 276 [(0, .ref x), (1, .int a0), (2, .int a1)] [] w (fun r9 w2 => ∃ (r1 : Int32), ∃ (z_A : AB), r9 = some (.int r1) ∧ OW w2 x z_A ∧ K r1 z_A) := by
  refine x_aload_n 0 d_L_goes_276 rfl rfl ?_
  refine x_iload_n 2 d_L_goes_277 rfl rfl ?_
  refine x_bipush (v := (9 : Int32)) d_L_goes_278 (by decide) ?_
  refine x_invS (rest := [.ref x]) (d' := d - 1) (mc' := 0) (ms' := 0) [.int a1, .int (9 : Int32)] k_L_near lk_L_89 rfl rfl (Nat.le_of_ble_eq_true rfl) (by omega) (Nat.le_of_ble_eq_true rfl) (Nat.le_of_ble_eq_true rfl) d_L_goes_280 ((sp_L_near (d := d - 1) (by omega) hQ).mono (fun r w2 hr => ?_))
  obtain ⟨r46, rfl, rfl, hQ⟩ := hr
  refine x_if_ne (tgt := 298) d_L_goes_283 (by decide) (fun c_283_47 => ?_) (fun c_283_47 => ?_)
  · have hQ := hQ.1 c_283_47
    refine x_iconst (v := (1 : Int32)) d_L_goes_298 (by decide) ?_
    refine x_iload_n 1 d_L_goes_299 rfl rfl ?_
    refine x_iconst (v := (4 : Int32)) d_L_goes_300 (by decide) ?_
    refine x_ishr d_L_goes_301 ?_
    refine x_sipush (v := (300 : Int32)) d_L_goes_302 (by decide) ?_
    refine x_invS (rest := [.int (1 : Int32), .ref x]) (d' := d - 1) (mc' := 0) (ms' := 0) [.int (a0 >>> ((4 : Int32) &&& 31)), .int (300 : Int32)] k_L_low lk_L_9 rfl rfl (Nat.le_of_ble_eq_true rfl) (by omega) (Nat.le_of_ble_eq_true rfl) (Nat.le_of_ble_eq_true rfl) d_L_goes_305 ((sp_L_low (d := d - 1) (by omega) hQ).mono (fun r w2 hr => ?_))
    obtain ⟨r48, rfl, rfl, hQ⟩ := hr
    refine x_iadd d_L_goes_308 ?_
    have hN := hQ.1
    have hQ := hQ.2
    refine x_invV (rest := []) (d' := d - 1) (mc' := 19) (ms' := 8122) [.int ((1 : Int32) + r48)] k_X9_solve lk_L_115 (OWx hO) rfl rfl rfl (Nat.le_of_ble_eq_true rfl) (by omega) (Nat.le_of_ble_eq_true rfl) (Nat.le_of_ble_eq_true rfl) d_L_goes_309 ((sw_solve (d := d - 1) (by omega) hO (hj := hN)).mono (fun r w2 hr => ?_))
    obtain ⟨r49, A50, rfl, hO, hR⟩ := hr
    have hQ := hQ r49 A50 hR hO.1
    exact x_iret (retI d_L_goes_312 rfl) ⟨_, _, rfl, hO, hQ⟩
  · have hQ := hQ.2 c_283_47
    refine x_iload_n 1 d_L_goes_286 rfl rfl ?_
    refine x_iconst (v := (4 : Int32)) d_L_goes_287 (by decide) ?_
    refine x_ishr d_L_goes_288 ?_
    refine x_sipush (v := (2001 : Int32)) d_L_goes_289 (by decide) ?_
    refine x_invS (rest := [.ref x]) (d' := d - 1) (mc' := 0) (ms' := 0) [.int (a0 >>> ((4 : Int32) &&& 31)), .int (2001 : Int32)] k_L_near lk_L_89 rfl rfl (Nat.le_of_ble_eq_true rfl) (by omega) (Nat.le_of_ble_eq_true rfl) (Nat.le_of_ble_eq_true rfl) d_L_goes_292 ((sp_L_near (d := d - 1) (by omega) hQ).mono (fun r w2 hr => ?_))
    obtain ⟨r51, rfl, rfl, hQ⟩ := hr
    refine x_goto (tgt := 309) d_L_goes_295 (by decide) ?_
    have hN := hQ.1
    have hQ := hQ.2
    refine x_invV (rest := []) (d' := d - 1) (mc' := 19) (ms' := 8122) [.int r51] k_X9_solve lk_L_115 (OWx hO) rfl rfl rfl (Nat.le_of_ble_eq_true rfl) (by omega) (Nat.le_of_ble_eq_true rfl) (Nat.le_of_ble_eq_true rfl) d_L_goes_309 ((sw_solve (d := d - 1) (by omega) hO (hj := hN)).mono (fun r w2 hr => ?_))
    obtain ⟨r52, A53, rfl, hO, hR⟩ := hr
    have hQ := hQ r52 A53 hR hO.1
    exact x_iret (retI d_L_goes_312 rfl) ⟨_, _, rfl, hO, hQ⟩
def wp_L_goes (A : AB) (a0 : Int32) (a1 : Int32) (K : Int32 → AB → Prop) : Prop := wp_L_low a0 (12 : Int32) (fun (r1 : Int32) => ((r1 = (0 : Int32) → jp_L_goes_64 a0 a1 K A) ∧ (¬ r1 = (0 : Int32) → ((r1 = (1 : Int32) → jp_L_goes_64 a0 a1 K A) ∧ (¬ r1 = (1 : Int32) → ((r1 = (2 : Int32) → jp_L_goes_64 a0 a1 K A) ∧ (¬ r1 = (2 : Int32) → ((r1 = (3 : Int32) → wp_L_near a1 (3 : Int32) (fun (r4 : Int32) => wp_L_low (a0 >>> ((4 : Int32) &&& 31)) (4 : Int32) (fun (r5 : Int32) => ((¬ r5 = (0 : Int32) → wp_L_low (a0 >>> ((6 : Int32) &&& 31)) (260 : Int32) (fun (r7 : Int32) => jp_L_goes_111 a0 a1 K r7 r4 A)) ∧ (r5 = (0 : Int32) → wp_L_near (a1 >>> ((3 : Int32) &&& 31)) (5001 : Int32) (fun (r15 : Int32) => jp_L_goes_111 a0 a1 K r15 r4 A)))))) ∧ (¬ r1 = (3 : Int32) → ((r1 = (4 : Int32) → jp_L_goes_140 a0 a1 K A) ∧ (¬ r1 = (4 : Int32) → ((r1 = (5 : Int32) → jp_L_goes_140 a0 a1 K A) ∧ (¬ r1 = (5 : Int32) → ((r1 = (6 : Int32) → wp_L_low a1 (4 : Int32) (fun (r27 : Int32) => ((¬ r27 = (0 : Int32) → ∀ (r29 : Int32) (A30 : AB), RelU A r29 A30 → AOK A30 → K r29 A30) ∧ (r27 = (0 : Int32) → wp_L_near (a1 >>> ((2 : Int32) &&& 31)) (3 : Int32) (fun (r31 : Int32) => ∀ (r32 : Int32) (A33 : AB), RelC A r32 A33 → AOK A33 → K r32 A33))))) ∧ (¬ r1 = (6 : Int32) → ((r1 = (7 : Int32) → wp_L_near a1 (3 : Int32) (fun (r34 : Int32) => ((¬ r34 = (0 : Int32) → ((¬ r34 = (1 : Int32) → wp_L_near (a0 >>> ((5 : Int32) &&& 31)) (4 : Int32) (fun (r37 : Int32) => ∀ (r38 : Int32) (A39 : AB), RelC A r38 A39 → AOK A39 → K r38 A39)) ∧ (r34 = (1 : Int32) → wp_L_near (a0 >>> ((5 : Int32) &&& 31)) (5 : Int32) (fun (r40 : Int32) => ∀ (r41 : Int32) (A42 : AB), RelC A r41 A42 → AOK A42 → K r41 A42)))) ∧ (r34 = (0 : Int32) → wp_L_near (a0 >>> ((5 : Int32) &&& 31)) (200 : Int32) (fun (r43 : Int32) => ∀ (r44 : Int32) (A45 : AB), RelC A r44 A45 → AOK A45 → K r44 A45))))) ∧ (¬ r1 = (7 : Int32) → ((r1 = (8 : Int32) → jp_L_goes_276 a0 a1 K A) ∧ (¬ r1 = (8 : Int32) → ((r1 = (9 : Int32) → jp_L_goes_276 a0 a1 K A) ∧ (¬ r1 = (9 : Int32) → ((r1 = (10 : Int32) → jp_L_goes_276 a0 a1 K A) ∧ (¬ r1 = (10 : Int32) → (wp_L_low a1 (2 : Int32) (fun (r54 : Int32) => ((¬ r54 = (0 : Int32) → wp_L_near (a0 >>> ((5 : Int32) &&& 31)) (2 : Int32) (fun (r56 : Int32) => ∀ (r57 : Int32) (A58 : AB), RelC A r57 A58 → AOK A58 → K r57 A58)) ∧ (r54 = (0 : Int32) → wp_L_near (a0 >>> ((5 : Int32) &&& 31)) (2 : Int32) (fun (r59 : Int32) => ∀ (r60 : Int32) (A61 : AB), RelS A r60 A61 → AOK A61 → K r60 A61))))))))))))))))))))))))))))
set_option maxHeartbeats 4000000 in
theorem sp_L_goes {G : GX} {l : Launch} {d x : Nat} {w : HW} {A : AB} {a0 : Int32} {a1 : Int32} {K : Int32 → AB → Prop} (hd : 71 ≤ d) (hO : OW w x A) (hQ : wp_L_goes A a0 a1 K) : Sp G l m_L_goes d 19 8122 [.ref x, .int a0, .int a1] w (fun r9 w2 => ∃ (r1 : Int32), ∃ (z_A : AB), r9 = some (.int r1) ∧ OW w2 x z_A ∧ K r1 z_A) := by
  refine Sp.ofX k_L_goes.1.1 (Nat.le_of_ble_eq_true rfl) ?_
  refine X.lv (lv2 := [(0, .ref x), (1, .int a0), (2, .int a1)]) rfl ?_
  refine x_iload_n 1 d_L_goes_0 rfl rfl ?_
  refine x_bipush (v := (12 : Int32)) d_L_goes_1 (by decide) ?_
  refine x_invS (rest := []) (d' := d - 1) (mc' := 0) (ms' := 0) [.int a0, .int (12 : Int32)] k_L_low lk_L_9 rfl rfl (Nat.le_of_ble_eq_true rfl) (by omega) (Nat.le_of_ble_eq_true rfl) (Nat.le_of_ble_eq_true rfl) d_L_goes_3 ((sp_L_low (d := d - 1) (by omega) hQ).mono (fun r w2 hr => ?_))
  obtain ⟨r1, rfl, rfl, hQ⟩ := hr
  by_cases c_6_0 : r1 = (0 : Int32)
  · have hQ := hQ.1 c_6_0
    refine x_tableIn (off := (58 : Int)) (tgt := 64) d_L_goes_6 (by rw [c_6_0]; decide) (by rw [c_6_0]; decide) (by rw [c_6_0]; rfl) (by decide) ?_
    refine x_sub [0, 1, 2] (lv2 := [(0, .ref x), (1, .int a0), (2, .int a1)]) rfl ?_
    exact jt_L_goes_64 hd A _ hO hQ
  · have hQ := hQ.2 c_6_0
    by_cases c_6_1 : r1 = (1 : Int32)
    · have hQ := hQ.1 c_6_1
      refine x_tableIn (off := (58 : Int)) (tgt := 64) d_L_goes_6 (by rw [c_6_1]; decide) (by rw [c_6_1]; decide) (by rw [c_6_1]; rfl) (by decide) ?_
      refine x_sub [0, 1, 2] (lv2 := [(0, .ref x), (1, .int a0), (2, .int a1)]) rfl ?_
      exact jt_L_goes_64 hd A _ hO hQ
    · have hQ := hQ.2 c_6_1
      by_cases c_6_2 : r1 = (2 : Int32)
      · have hQ := hQ.1 c_6_2
        refine x_tableIn (off := (58 : Int)) (tgt := 64) d_L_goes_6 (by rw [c_6_2]; decide) (by rw [c_6_2]; decide) (by rw [c_6_2]; rfl) (by decide) ?_
        refine x_sub [0, 1, 2] (lv2 := [(0, .ref x), (1, .int a0), (2, .int a1)]) rfl ?_
        exact jt_L_goes_64 hd A _ hO hQ
      · have hQ := hQ.2 c_6_2
        by_cases c_6_3 : r1 = (3 : Int32)
        · have hQ := hQ.1 c_6_3
          refine x_tableIn (off := (67 : Int)) (tgt := 73) d_L_goes_6 (by rw [c_6_3]; decide) (by rw [c_6_3]; decide) (by rw [c_6_3]; rfl) (by decide) ?_
          refine x_aload_n 0 d_L_goes_73 rfl rfl ?_
          refine x_iload_n 2 d_L_goes_74 rfl rfl ?_
          refine x_iconst (v := (3 : Int32)) d_L_goes_75 (by decide) ?_
          refine x_invS (rest := [.ref x]) (d' := d - 1) (mc' := 0) (ms' := 0) [.int a1, .int (3 : Int32)] k_L_near lk_L_89 rfl rfl (Nat.le_of_ble_eq_true rfl) (by omega) (Nat.le_of_ble_eq_true rfl) (Nat.le_of_ble_eq_true rfl) d_L_goes_76 ((sp_L_near (d := d - 1) (by omega) hQ).mono (fun r w2 hr => ?_))
          obtain ⟨r4, rfl, rfl, hQ⟩ := hr
          refine x_iload_n 1 d_L_goes_79 rfl rfl ?_
          refine x_iconst (v := (4 : Int32)) d_L_goes_80 (by decide) ?_
          refine x_ishr d_L_goes_81 ?_
          refine x_iconst (v := (4 : Int32)) d_L_goes_82 (by decide) ?_
          refine x_invS (rest := [.int r4, .ref x]) (d' := d - 1) (mc' := 0) (ms' := 0) [.int (a0 >>> ((4 : Int32) &&& 31)), .int (4 : Int32)] k_L_low lk_L_9 rfl rfl (Nat.le_of_ble_eq_true rfl) (by omega) (Nat.le_of_ble_eq_true rfl) (Nat.le_of_ble_eq_true rfl) d_L_goes_83 ((sp_L_low (d := d - 1) (by omega) hQ).mono (fun r w2 hr => ?_))
          obtain ⟨r5, rfl, rfl, hQ⟩ := hr
          refine x_if_ne (tgt := 101) d_L_goes_86 (by decide) (fun c_86_6 => ?_) (fun c_86_6 => ?_)
          · have hQ := hQ.1 c_86_6
            refine x_iload_n 1 d_L_goes_101 rfl rfl ?_
            refine x_bipush (v := (6 : Int32)) d_L_goes_102 (by decide) ?_
            refine x_ishr d_L_goes_104 ?_
            refine x_sipush (v := (260 : Int32)) d_L_goes_105 (by decide) ?_
            refine x_invS (rest := [.int r4, .ref x]) (d' := d - 1) (mc' := 0) (ms' := 0) [.int (a0 >>> ((6 : Int32) &&& 31)), .int (260 : Int32)] k_L_low lk_L_9 rfl rfl (Nat.le_of_ble_eq_true rfl) (by omega) (Nat.le_of_ble_eq_true rfl) (Nat.le_of_ble_eq_true rfl) d_L_goes_108 ((sp_L_low (d := d - 1) (by omega) hQ).mono (fun r w2 hr => ?_))
            obtain ⟨r7, rfl, rfl, hQ⟩ := hr
            refine x_sub [1, 2] (lv2 := [(1, .int a0), (2, .int a1)]) rfl ?_
            exact jt_L_goes_111 hd r7 r4 A _ hO hQ
          · have hQ := hQ.2 c_86_6
            refine x_iload_n 2 d_L_goes_89 rfl rfl ?_
            refine x_iconst (v := (3 : Int32)) d_L_goes_90 (by decide) ?_
            refine x_ishr d_L_goes_91 ?_
            refine x_sipush (v := (5001 : Int32)) d_L_goes_92 (by decide) ?_
            refine x_invS (rest := [.int r4, .ref x]) (d' := d - 1) (mc' := 0) (ms' := 0) [.int (a1 >>> ((3 : Int32) &&& 31)), .int (5001 : Int32)] k_L_near lk_L_89 rfl rfl (Nat.le_of_ble_eq_true rfl) (by omega) (Nat.le_of_ble_eq_true rfl) (Nat.le_of_ble_eq_true rfl) d_L_goes_95 ((sp_L_near (d := d - 1) (by omega) hQ).mono (fun r w2 hr => ?_))
            obtain ⟨r15, rfl, rfl, hQ⟩ := hr
            refine x_goto (tgt := 111) d_L_goes_98 (by decide) ?_
            refine x_sub [1, 2] (lv2 := [(1, .int a0), (2, .int a1)]) rfl ?_
            exact jt_L_goes_111 hd r15 r4 A _ hO hQ
        · have hQ := hQ.2 c_6_3
          by_cases c_6_4 : r1 = (4 : Int32)
          · have hQ := hQ.1 c_6_4
            refine x_tableIn (off := (134 : Int)) (tgt := 140) d_L_goes_6 (by rw [c_6_4]; decide) (by rw [c_6_4]; decide) (by rw [c_6_4]; rfl) (by decide) ?_
            refine x_sub [0, 1, 2] (lv2 := [(0, .ref x), (1, .int a0), (2, .int a1)]) rfl ?_
            exact jt_L_goes_140 hd A _ hO hQ
          · have hQ := hQ.2 c_6_4
            by_cases c_6_5 : r1 = (5 : Int32)
            · have hQ := hQ.1 c_6_5
              refine x_tableIn (off := (134 : Int)) (tgt := 140) d_L_goes_6 (by rw [c_6_5]; decide) (by rw [c_6_5]; decide) (by rw [c_6_5]; rfl) (by decide) ?_
              refine x_sub [0, 1, 2] (lv2 := [(0, .ref x), (1, .int a0), (2, .int a1)]) rfl ?_
              exact jt_L_goes_140 hd A _ hO hQ
            · have hQ := hQ.2 c_6_5
              by_cases c_6_6 : r1 = (6 : Int32)
              · have hQ := hQ.1 c_6_6
                refine x_tableIn (off := (196 : Int)) (tgt := 202) d_L_goes_6 (by rw [c_6_6]; decide) (by rw [c_6_6]; decide) (by rw [c_6_6]; rfl) (by decide) ?_
                refine x_iload_n 2 d_L_goes_202 rfl rfl ?_
                refine x_iconst (v := (4 : Int32)) d_L_goes_203 (by decide) ?_
                refine x_invS (rest := []) (d' := d - 1) (mc' := 0) (ms' := 0) [.int a1, .int (4 : Int32)] k_L_low lk_L_9 rfl rfl (Nat.le_of_ble_eq_true rfl) (by omega) (Nat.le_of_ble_eq_true rfl) (Nat.le_of_ble_eq_true rfl) d_L_goes_204 ((sp_L_low (d := d - 1) (by omega) hQ).mono (fun r w2 hr => ?_))
                obtain ⟨r27, rfl, rfl, hQ⟩ := hr
                refine x_if_ne (tgt := 224) d_L_goes_207 (by decide) (fun c_207_28 => ?_) (fun c_207_28 => ?_)
                · have hQ := hQ.1 c_207_28
                  refine x_aload_n 0 d_L_goes_224 rfl rfl ?_
                  refine x_invV (rest := []) (d' := d - 1) (mc' := 19) (ms' := 8122) [] k_X9_undo lk_L_109 (OWx hO) rfl rfl rfl (Nat.le_of_ble_eq_true rfl) (by omega) (Nat.le_of_ble_eq_true rfl) (Nat.le_of_ble_eq_true rfl) d_L_goes_225 ((sw_undo (d := d - 1) (by omega) hO).mono (fun r w2 hr => ?_))
                  obtain ⟨r29, A30, rfl, hO, hR⟩ := hr
                  have hQ := hQ r29 A30 hR hO.1
                  exact x_iret (retI d_L_goes_228 rfl) ⟨_, _, rfl, hO, hQ⟩
                · have hQ := hQ.2 c_207_28
                  refine x_aload_n 0 d_L_goes_210 rfl rfl ?_
                  refine x_iload_n 2 d_L_goes_211 rfl rfl ?_
                  refine x_iconst (v := (2 : Int32)) d_L_goes_212 (by decide) ?_
                  refine x_ishr d_L_goes_213 ?_
                  refine x_iconst (v := (3 : Int32)) d_L_goes_214 (by decide) ?_
                  refine x_invS (rest := [.ref x]) (d' := d - 1) (mc' := 0) (ms' := 0) [.int (a1 >>> ((2 : Int32) &&& 31)), .int (3 : Int32)] k_L_near lk_L_89 rfl rfl (Nat.le_of_ble_eq_true rfl) (by omega) (Nat.le_of_ble_eq_true rfl) (Nat.le_of_ble_eq_true rfl) d_L_goes_215 ((sp_L_near (d := d - 1) (by omega) hQ).mono (fun r w2 hr => ?_))
                  obtain ⟨r31, rfl, rfl, hQ⟩ := hr
                  refine x_invV (rest := []) (d' := d - 1) (mc' := 19) (ms' := 8122) [.int r31] k_X9_clear lk_L_106 (OWx hO) rfl rfl rfl (Nat.le_of_ble_eq_true rfl) (by omega) (Nat.le_of_ble_eq_true rfl) (Nat.le_of_ble_eq_true rfl) d_L_goes_218 ((sw_clear (d := d - 1) (by omega) hO).mono (fun r w2 hr => ?_))
                  obtain ⟨r32, A33, rfl, hO, hR⟩ := hr
                  have hQ := hQ r32 A33 hR hO.1
                  refine x_goto (tgt := 228) d_L_goes_221 (by decide) ?_
                  exact x_iret (retI d_L_goes_228 rfl) ⟨_, _, rfl, hO, hQ⟩
              · have hQ := hQ.2 c_6_6
                by_cases c_6_7 : r1 = (7 : Int32)
                · have hQ := hQ.1 c_6_7
                  refine x_tableIn (off := (223 : Int)) (tgt := 229) d_L_goes_6 (by rw [c_6_7]; decide) (by rw [c_6_7]; decide) (by rw [c_6_7]; rfl) (by decide) ?_
                  refine x_iload_n 2 d_L_goes_229 rfl rfl ?_
                  refine x_iconst (v := (3 : Int32)) d_L_goes_230 (by decide) ?_
                  refine x_invS (rest := []) (d' := d - 1) (mc' := 0) (ms' := 0) [.int a1, .int (3 : Int32)] k_L_near lk_L_89 rfl rfl (Nat.le_of_ble_eq_true rfl) (by omega) (Nat.le_of_ble_eq_true rfl) (Nat.le_of_ble_eq_true rfl) d_L_goes_231 ((sp_L_near (d := d - 1) (by omega) hQ).mono (fun r w2 hr => ?_))
                  obtain ⟨r34, rfl, rfl, hQ⟩ := hr
                  refine x_istore_n (lv2 := [(3, .int r34), (0, .ref x), (1, .int a0), (2, .int a1)]) d_L_goes_234 rfl (by decide) rfl ?_
                  refine x_aload_n 1 d_L_goes_235 rfl rfl ?_
                  refine x_iload_n 0 d_L_goes_236 rfl rfl ?_
                  refine x_iload_n 0 d_L_goes_237 rfl rfl ?_
                  refine x_if_ne (tgt := 256) d_L_goes_238 (by decide) (fun c_238_35 => ?_) (fun c_238_35 => ?_)
                  · have hQ := hQ.1 c_238_35
                    refine x_iload_n 2 d_L_goes_256 rfl rfl ?_
                    refine x_iconst (v := (5 : Int32)) d_L_goes_257 (by decide) ?_
                    refine x_ishr d_L_goes_258 ?_
                    refine x_iload_n 0 d_L_goes_259 rfl rfl ?_
                    refine x_iconst (v := (1 : Int32)) d_L_goes_260 (by decide) ?_
                    refine x_icmp_ne (tgt := 268) d_L_goes_261 (by decide) (fun c_261_36 => ?_) (fun c_261_36 => ?_)
                    · have hQ := hQ.1 c_261_36
                      refine x_iconst (v := (4 : Int32)) d_L_goes_268 (by decide) ?_
                      refine x_invS (rest := [.int r34, .ref x]) (d' := d - 1) (mc' := 0) (ms' := 0) [.int (a0 >>> ((5 : Int32) &&& 31)), .int (4 : Int32)] k_L_near lk_L_89 rfl rfl (Nat.le_of_ble_eq_true rfl) (by omega) (Nat.le_of_ble_eq_true rfl) (Nat.le_of_ble_eq_true rfl) d_L_goes_269 ((sp_L_near (d := d - 1) (by omega) hQ).mono (fun r w2 hr => ?_))
                      obtain ⟨r37, rfl, rfl, hQ⟩ := hr
                      refine x_invV (rest := []) (d' := d - 1) (mc' := 19) (ms' := 8122) [.int r34, .int r37] k_X9_set lk_L_112 (OWx hO) rfl rfl rfl (Nat.le_of_ble_eq_true rfl) (by omega) (Nat.le_of_ble_eq_true rfl) (Nat.le_of_ble_eq_true rfl) d_L_goes_272 ((sw_set (d := d - 1) (by omega) hO).mono (fun r w2 hr => ?_))
                      obtain ⟨r38, A39, rfl, hO, hR⟩ := hr
                      have hQ := hQ r38 A39 hR hO.1
                      exact x_iret (retI d_L_goes_275 rfl) ⟨_, _, rfl, hO, hQ⟩
                    · have hQ := hQ.2 c_261_36
                      refine x_iconst (v := (5 : Int32)) d_L_goes_264 (by decide) ?_
                      refine x_goto (tgt := 269) d_L_goes_265 (by decide) ?_
                      refine x_invS (rest := [.int r34, .ref x]) (d' := d - 1) (mc' := 0) (ms' := 0) [.int (a0 >>> ((5 : Int32) &&& 31)), .int (5 : Int32)] k_L_near lk_L_89 rfl rfl (Nat.le_of_ble_eq_true rfl) (by omega) (Nat.le_of_ble_eq_true rfl) (Nat.le_of_ble_eq_true rfl) d_L_goes_269 ((sp_L_near (d := d - 1) (by omega) hQ).mono (fun r w2 hr => ?_))
                      obtain ⟨r40, rfl, rfl, hQ⟩ := hr
                      refine x_invV (rest := []) (d' := d - 1) (mc' := 19) (ms' := 8122) [.int r34, .int r40] k_X9_set lk_L_112 (OWx hO) rfl rfl rfl (Nat.le_of_ble_eq_true rfl) (by omega) (Nat.le_of_ble_eq_true rfl) (Nat.le_of_ble_eq_true rfl) d_L_goes_272 ((sw_set (d := d - 1) (by omega) hO).mono (fun r w2 hr => ?_))
                      obtain ⟨r41, A42, rfl, hO, hR⟩ := hr
                      have hQ := hQ r41 A42 hR hO.1
                      exact x_iret (retI d_L_goes_275 rfl) ⟨_, _, rfl, hO, hQ⟩
                  · have hQ := hQ.2 c_238_35
                    refine x_bipush (v := (20 : Int32)) d_L_goes_241 (by decide) ?_
                    refine x_iload_n 2 d_L_goes_243 rfl rfl ?_
                    refine x_iconst (v := (5 : Int32)) d_L_goes_244 (by decide) ?_
                    refine x_ishr d_L_goes_245 ?_
                    refine x_sipush (v := (200 : Int32)) d_L_goes_246 (by decide) ?_
                    refine x_invS (rest := [.int (20 : Int32), .int r34, .ref x]) (d' := d - 1) (mc' := 0) (ms' := 0) [.int (a0 >>> ((5 : Int32) &&& 31)), .int (200 : Int32)] k_L_near lk_L_89 rfl rfl (Nat.le_of_ble_eq_true rfl) (by omega) (Nat.le_of_ble_eq_true rfl) (Nat.le_of_ble_eq_true rfl) d_L_goes_249 ((sp_L_near (d := d - 1) (by omega) hQ).mono (fun r w2 hr => ?_))
                    obtain ⟨r43, rfl, rfl, hQ⟩ := hr
                    refine x_iadd d_L_goes_252 ?_
                    refine x_goto (tgt := 272) d_L_goes_253 (by decide) ?_
                    refine x_invV (rest := []) (d' := d - 1) (mc' := 19) (ms' := 8122) [.int r34, .int ((20 : Int32) + r43)] k_X9_set lk_L_112 (OWx hO) rfl rfl rfl (Nat.le_of_ble_eq_true rfl) (by omega) (Nat.le_of_ble_eq_true rfl) (Nat.le_of_ble_eq_true rfl) d_L_goes_272 ((sw_set (d := d - 1) (by omega) hO).mono (fun r w2 hr => ?_))
                    obtain ⟨r44, A45, rfl, hO, hR⟩ := hr
                    have hQ := hQ r44 A45 hR hO.1
                    exact x_iret (retI d_L_goes_275 rfl) ⟨_, _, rfl, hO, hQ⟩
                · have hQ := hQ.2 c_6_7
                  by_cases c_6_8 : r1 = (8 : Int32)
                  · have hQ := hQ.1 c_6_8
                    refine x_tableIn (off := (270 : Int)) (tgt := 276) d_L_goes_6 (by rw [c_6_8]; decide) (by rw [c_6_8]; decide) (by rw [c_6_8]; rfl) (by decide) ?_
                    refine x_sub [0, 1, 2] (lv2 := [(0, .ref x), (1, .int a0), (2, .int a1)]) rfl ?_
                    exact jt_L_goes_276 hd A _ hO hQ
                  · have hQ := hQ.2 c_6_8
                    by_cases c_6_9 : r1 = (9 : Int32)
                    · have hQ := hQ.1 c_6_9
                      refine x_tableIn (off := (270 : Int)) (tgt := 276) d_L_goes_6 (by rw [c_6_9]; decide) (by rw [c_6_9]; decide) (by rw [c_6_9]; rfl) (by decide) ?_
                      refine x_sub [0, 1, 2] (lv2 := [(0, .ref x), (1, .int a0), (2, .int a1)]) rfl ?_
                      exact jt_L_goes_276 hd A _ hO hQ
                    · have hQ := hQ.2 c_6_9
                      by_cases c_6_10 : r1 = (10 : Int32)
                      · have hQ := hQ.1 c_6_10
                        refine x_tableIn (off := (270 : Int)) (tgt := 276) d_L_goes_6 (by rw [c_6_10]; decide) (by rw [c_6_10]; decide) (by rw [c_6_10]; rfl) (by decide) ?_
                        refine x_sub [0, 1, 2] (lv2 := [(0, .ref x), (1, .int a0), (2, .int a1)]) rfl ?_
                        exact jt_L_goes_276 hd A _ hO hQ
                      · have hQ := hQ.2 c_6_10
                        refine x_tableOut (tgt := 313) d_L_goes_6 (sw_out 0 10 r1 (fun v h1 h2 => by
                            have h3 : v = 0 ∨ v = 1 ∨ v = 2 ∨ v = 3 ∨ v = 4 ∨ v = 5 ∨ v = 6 ∨ v = 7 ∨ v = 8 ∨ v = 9 ∨ v = 10 := by omega
                            rcases h3 with rfl | rfl | rfl | rfl | rfl | rfl | rfl | rfl | rfl | rfl | rfl <;> first | exact sw_ne c_6_0 (by decide) | exact sw_ne c_6_1 (by decide) | exact sw_ne c_6_2 (by decide) | exact sw_ne c_6_3 (by decide) | exact sw_ne c_6_4 (by decide) | exact sw_ne c_6_5 (by decide) | exact sw_ne c_6_6 (by decide) | exact sw_ne c_6_7 (by decide) | exact sw_ne c_6_8 (by decide) | exact sw_ne c_6_9 (by decide) | exact sw_ne c_6_10 (by decide))) (by decide) ?_
                        refine x_iload_n 2 d_L_goes_313 rfl rfl ?_
                        refine x_iconst (v := (2 : Int32)) d_L_goes_314 (by decide) ?_
                        refine x_invS (rest := []) (d' := d - 1) (mc' := 0) (ms' := 0) [.int a1, .int (2 : Int32)] k_L_low lk_L_9 rfl rfl (Nat.le_of_ble_eq_true rfl) (by omega) (Nat.le_of_ble_eq_true rfl) (Nat.le_of_ble_eq_true rfl) d_L_goes_315 ((sp_L_low (d := d - 1) (by omega) hQ).mono (fun r w2 hr => ?_))
                        obtain ⟨r54, rfl, rfl, hQ⟩ := hr
                        refine x_if_ne (tgt := 335) d_L_goes_318 (by decide) (fun c_318_55 => ?_) (fun c_318_55 => ?_)
                        · have hQ := hQ.1 c_318_55
                          refine x_aload_n 0 d_L_goes_335 rfl rfl ?_
                          refine x_iload_n 1 d_L_goes_336 rfl rfl ?_
                          refine x_iconst (v := (5 : Int32)) d_L_goes_337 (by decide) ?_
                          refine x_ishr d_L_goes_338 ?_
                          refine x_iconst (v := (2 : Int32)) d_L_goes_339 (by decide) ?_
                          refine x_invS (rest := [.ref x]) (d' := d - 1) (mc' := 0) (ms' := 0) [.int (a0 >>> ((5 : Int32) &&& 31)), .int (2 : Int32)] k_L_near lk_L_89 rfl rfl (Nat.le_of_ble_eq_true rfl) (by omega) (Nat.le_of_ble_eq_true rfl) (Nat.le_of_ble_eq_true rfl) d_L_goes_340 ((sp_L_near (d := d - 1) (by omega) hQ).mono (fun r w2 hr => ?_))
                          obtain ⟨r56, rfl, rfl, hQ⟩ := hr
                          refine x_invV (rest := []) (d' := d - 1) (mc' := 19) (ms' := 8122) [.int r56] k_X9_restore lk_L_121 (OWx hO) rfl rfl rfl (Nat.le_of_ble_eq_true rfl) (by omega) (Nat.le_of_ble_eq_true rfl) (Nat.le_of_ble_eq_true rfl) d_L_goes_343 ((sw_restore (d := d - 1) (by omega) hO).mono (fun r w2 hr => ?_))
                          obtain ⟨r57, A58, rfl, hO, hR⟩ := hr
                          have hQ := hQ r57 A58 hR hO.1
                          exact x_iret (retI d_L_goes_346 rfl) ⟨_, _, rfl, hO, hQ⟩
                        · have hQ := hQ.2 c_318_55
                          refine x_aload_n 0 d_L_goes_321 rfl rfl ?_
                          refine x_iload_n 1 d_L_goes_322 rfl rfl ?_
                          refine x_iconst (v := (5 : Int32)) d_L_goes_323 (by decide) ?_
                          refine x_ishr d_L_goes_324 ?_
                          refine x_iconst (v := (2 : Int32)) d_L_goes_325 (by decide) ?_
                          refine x_invS (rest := [.ref x]) (d' := d - 1) (mc' := 0) (ms' := 0) [.int (a0 >>> ((5 : Int32) &&& 31)), .int (2 : Int32)] k_L_near lk_L_89 rfl rfl (Nat.le_of_ble_eq_true rfl) (by omega) (Nat.le_of_ble_eq_true rfl) (Nat.le_of_ble_eq_true rfl) d_L_goes_326 ((sp_L_near (d := d - 1) (by omega) hQ).mono (fun r w2 hr => ?_))
                          obtain ⟨r59, rfl, rfl, hQ⟩ := hr
                          refine x_invV (rest := []) (d' := d - 1) (mc' := 19) (ms' := 8122) [.int r59] k_X9_save lk_L_118 (OWx hO) rfl rfl rfl (Nat.le_of_ble_eq_true rfl) (by omega) (Nat.le_of_ble_eq_true rfl) (Nat.le_of_ble_eq_true rfl) d_L_goes_329 ((sw_save (d := d - 1) (by omega) hO).mono (fun r w2 hr => ?_))
                          obtain ⟨r60, A61, rfl, hO, hR⟩ := hr
                          have hQ := hQ r60 A61 hR hO.1
                          refine x_goto (tgt := 346) d_L_goes_332 (by decide) ?_
                          exact x_iret (retI d_L_goes_346 rfl) ⟨_, _, rfl, hO, hQ⟩
