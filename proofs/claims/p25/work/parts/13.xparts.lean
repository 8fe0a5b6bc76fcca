def wp_X9_put (z : Nat) (f : Nat → Int32) (i : Int32) (x : Int32) (K : (Nat → Int32) → Prop) : Prop := ((i < (0 : Int32) → K f) ∧ (¬ i < (0 : Int32) → (((nI z) ≤ i → K f) ∧ (¬ (nI z) ≤ i → vp_in i z ∧ ∀ f3 : Nat → Int32, f3 = upd (f) i.toNatClampNeg x → K f3))))
set_option maxHeartbeats 4000000 in
theorem sp_X9_put {G : GX} {l : Launch} {d : Nat} {w : HW} {a : Nat} {z : Nat} {f : Nat → Int32} {i : Int32} {x : Int32} {K : (Nat → Int32) → Prop} (hd : 0 ≤ d) (hQ : wp_X9_put z f i x K) : Sp G l m_X9_put d 0 0 [.ref a, .int i, .int x] (hset w a (cI z f)) (fun r w2 => ∃ (z0 : Nat → Int32), r = none ∧ w2 = hset w a (cI z z0) ∧ K z0) := by
  refine Sp.ofX k_X9_put.1.1 (Nat.le_of_ble_eq_true rfl) ?_
  refine X.lv (lv2 := [(0, .ref a), (1, .int i), (2, .int x)]) rfl ?_
  refine x_aload_n 0 d_X9_put_0 rfl rfl ?_
  refine x_ifnull d_X9_put_1 ?_
  refine x_iload_n 1 d_X9_put_4 rfl rfl ?_
  refine x_if_lt (tgt := 18) d_X9_put_5 (by decide) (fun c_5_1 => ?_) (fun c_5_1 => ?_)
  · have hQ := hQ.1 c_5_1
    exact x_vret (retV d_X9_put_18 rfl) ⟨_, rfl, rfl, hQ⟩
  · have hQ := hQ.2 c_5_1
    refine x_iload_n 1 d_X9_put_8 rfl rfl ?_
    refine x_aload_n 0 d_X9_put_9 rfl rfl ?_
    refine x_alenI hset_at d_X9_put_10 ?_
    refine x_icmp_ge (tgt := 18) d_X9_put_11 (by decide) (fun c_11_2 => ?_) (fun c_11_2 => ?_)
    · have hQ := hQ.1 c_11_2
      exact x_vret (retV d_X9_put_18 rfl) ⟨_, rfl, rfl, hQ⟩
    · have hQ := hQ.2 c_11_2
      refine x_aload_n 0 d_X9_put_14 rfl rfl ?_
      refine x_iload_n 1 d_X9_put_15 rfl rfl ?_
      refine x_iload_n 2 d_X9_put_16 rfl rfl ?_
      have hN := hQ.1
      have hQ := hQ.2
      refine x_iast hset_at hN d_X9_put_17 ?_
      obtain ⟨f3, e_f3⟩ : ∃ z : Nat → Int32, z = upd (f) i.toNatClampNeg x := ⟨_, rfl⟩
      have hQ := hQ f3 e_f3
      refine X.world (w2 := hset w a (cI z f3)) (by rw [e_f3]; exact hset_hset) ?_
      exact x_vret (retV d_X9_put_18 rfl) ⟨_, rfl, rfl, hQ⟩
theorem spa_X9_put {G : GX} {l : Launch} {d : Nat} {w : HW} {a : Nat} {z : Nat} {f : Nat → Int32} {i : Int32} {x : Int32} {K : (Nat → Int32) → Prop} (hd : 0 ≤ d) (ha_a : w.1 a = some (cI z f)) (hQ : wp_X9_put z f i x K) : Sp G l m_X9_put d 0 0 [.ref a, .int i, .int x] w (fun r w2 => ∃ (z0 : Nat → Int32), r = none ∧ w2 = hset w a (cI z z0) ∧ K z0) := by
  have h := sp_X9_put (G := G) (l := l) (w := w) (a := a) hd hQ
  rw [hset_same ha_a] at h
  exact h
def lp_X9_makeRoom_2 (z : Nat) (i : Int32) (e : Int32) (K : (Nat → Int32) → Prop) : Nat → Int32 → (Nat → Int32) → Prop
  | 0, _, _ => False
  | n + 1, x_3, y_0 => ((x_3 ≤ i → K y_0) ∧ (¬ x_3 ≤ i → wp_X9_pick z y_0 (x_3 - (1 : Int32)) (fun (r2 : Int32) => wp_X9_put z y_0 x_3 r2 (fun (f3 : Nat → Int32) => ∀ x4 : Int32, x4 = x_3 + (-1 : Int32) → lp_X9_makeRoom_2 z i e K n x4 f3))))
set_option maxHeartbeats 4000000 in
theorem jt_X9_makeRoom_2 {G : GX} {l : Launch} {d : Nat} {w : HW} {a : Nat} {z : Nat} {i : Int32} {e : Int32} {K : (Nat → Int32) → Prop} (hd : 1 ≤ d) : ∀ (n : Nat) (x_3 : Int32) (y_0 : Nat → Int32), lp_X9_makeRoom_2 z i e K n x_3 y_0 → X G l m_X9_makeRoom d 0 0 0 0 2 [(0, .ref a), (1, .int i), (3, .int x_3)] [] (hset w a (cI z y_0)) (fun r w2 => ∃ (z0 : Nat → Int32), r = none ∧ w2 = hset w a (cI z z0) ∧ K z0) := by
  intro n
  induction n with
  | zero =>
    intro x_3 y_0 hQ
    exact hQ.elim
  | succ n ih =>
    intro x_3 y_0 hQ
    refine x_iload_n 2 d_X9_makeRoom_2 rfl rfl ?_
    refine x_iload_n 1 d_X9_makeRoom_3 rfl rfl ?_
    refine x_icmp_le (tgt := 25) d_X9_makeRoom_4 (by decide) (fun c_4_1 => ?_) (fun c_4_1 => ?_)
    · have hQ := hQ.1 c_4_1
      exact x_vret (retV d_X9_makeRoom_25 rfl) ⟨_, rfl, rfl, hQ⟩
    · have hQ := hQ.2 c_4_1
      refine x_aload_n 0 d_X9_makeRoom_7 rfl rfl ?_
      refine x_iload_n 2 d_X9_makeRoom_8 rfl rfl ?_
      refine x_aload_n 0 d_X9_makeRoom_9 rfl rfl ?_
      refine x_iload_n 2 d_X9_makeRoom_10 rfl rfl ?_
      refine x_iconst (v := (1 : Int32)) d_X9_makeRoom_11 (by decide) ?_
      refine x_isub d_X9_makeRoom_12 ?_
      refine x_invS (rest := [.int x_3, .ref a]) (d' := d - 1) (mc' := 0) (ms' := 0) [.ref a, .int (x_3 - (1 : Int32))] k_X9_pick lk_X9_88 rfl rfl (Nat.le_of_ble_eq_true rfl) (by omega) (Nat.le_refl _) (Nat.le_refl _) d_X9_makeRoom_13 ((sp_X9_pick (d := d - 1) (by omega) hset_at hQ).mono (fun r w2 hr => ?_))
      obtain ⟨r2, rfl, rfl, hQ⟩ := hr
      refine x_invS (rest := []) (d' := d - 1) (mc' := 0) (ms' := 0) [.ref a, .int x_3, .int r2] k_X9_put lk_X9_108 rfl rfl (Nat.le_of_ble_eq_true rfl) (by omega) (Nat.le_refl _) (Nat.le_refl _) d_X9_makeRoom_16 ((spa_X9_put (d := d - 1) (by omega) hset_at hQ).mono (fun r w2 hr => ?_))
      obtain ⟨f3, rfl, rfl, hQ⟩ := hr
      refine X.world (w2 := hset w a (cI z f3)) (hset_hset) ?_
      obtain ⟨x4, e_x4⟩ : ∃ z : Int32, z = x_3 + (-1 : Int32) := ⟨_, rfl⟩
      have hQ := hQ x4 e_x4
      refine x_iinc (v := x4) (lv2 := [(3, .int x4), (0, .ref a), (1, .int i)]) 2 d_X9_makeRoom_19 rfl (by rw [e_x4]; rfl) (by decide) rfl ?_
      refine x_goto (tgt := 2) d_X9_makeRoom_22 (by decide) ?_
      refine x_sub [1, 2, 0] (lv2 := [(0, .ref a), (1, .int i), (3, .int x4)]) rfl ?_
      exact ih x4 f3 hQ
def wp_X9_makeRoom (z : Nat) (f : Nat → Int32) (i : Int32) (e : Int32) (K : (Nat → Int32) → Prop) : Prop := ∃ m : Nat, lp_X9_makeRoom_2 z i e K m e f
set_option maxHeartbeats 4000000 in
theorem sp_X9_makeRoom {G : GX} {l : Launch} {d : Nat} {w : HW} {a : Nat} {z : Nat} {f : Nat → Int32} {i : Int32} {e : Int32} {K : (Nat → Int32) → Prop} (hd : 1 ≤ d) (hQ : wp_X9_makeRoom z f i e K) : Sp G l m_X9_makeRoom d 0 0 [.ref a, .int i, .int e] (hset w a (cI z f)) (fun r w2 => ∃ (z0 : Nat → Int32), r = none ∧ w2 = hset w a (cI z z0) ∧ K z0) := by
  refine Sp.ofX k_X9_makeRoom.1.1 (Nat.le_of_ble_eq_true rfl) ?_
  refine X.lv (lv2 := [(0, .ref a), (1, .int i), (2, .int e)]) rfl ?_
  refine x_iload_n 2 d_X9_makeRoom_0 rfl rfl ?_
  refine x_istore_n (lv2 := [(3, .int e), (0, .ref a), (1, .int i), (2, .int e)]) d_X9_makeRoom_1 rfl (by decide) rfl ?_
  refine x_sub [1, 2, 0] (lv2 := [(0, .ref a), (1, .int i), (3, .int e)]) rfl ?_
  obtain ⟨m, hQ⟩ := hQ
  exact jt_X9_makeRoom_2 hd m e f hQ
theorem spa_X9_makeRoom {G : GX} {l : Launch} {d : Nat} {w : HW} {a : Nat} {z : Nat} {f : Nat → Int32} {i : Int32} {e : Int32} {K : (Nat → Int32) → Prop} (hd : 1 ≤ d) (ha_a : w.1 a = some (cI z f)) (hQ : wp_X9_makeRoom z f i e K) : Sp G l m_X9_makeRoom d 0 0 [.ref a, .int i, .int e] w (fun r w2 => ∃ (z0 : Nat → Int32), r = none ∧ w2 = hset w a (cI z z0) ∧ K z0) := by
  have h := sp_X9_makeRoom (G := G) (l := l) (w := w) (a := a) hd hQ
  rw [hset_same ha_a] at h
  exact h
def wp_X9_copyRow (y : Nat) (g : Nat → Int32) (z : Nat) (f : Nat → Int32) (c : Int32) (K : (Nat → Int32) → Prop) : Prop := ∀ x1 : Int32, x1 = (if (if (nI z) < (nI y) then (nI z) else (nI y)) < c then (if (nI z) < (nI y) then (nI z) else (nI y)) else c) → ((x1 ≤ (0 : Int32) → K f) ∧ (¬ x1 ≤ (0 : Int32) → ¬ x1 < 0 ∧ x1.toNatClampNeg ≤ y ∧ x1.toNatClampNeg ≤ z ∧ ∀ f3 : Nat → Int32, f3 = va_cpy (g) (f) 0 0 x1.toNatClampNeg → K f3))
set_option maxHeartbeats 4000000 in
theorem sp_X9_copyRow {G : GX} {l : Launch} {d : Nat} {w : HW} {a b : Nat} {y : Nat} {g : Nat → Int32} {z : Nat} {f : Nat → Int32} {c : Int32} {K : (Nat → Int32) → Prop} (hd : 1 ≤ d) (ha_b : w.1 b = some (cI y g)) (hn_0_1 : b ≠ a) (hQ : wp_X9_copyRow y g z f c K) : Sp G l m_X9_copyRow d 0 0 [.ref b, .ref a, .int c] (hset w a (cI z f)) (fun r w2 => ∃ (z1 : Nat → Int32), r = none ∧ w2 = hset w a (cI z z1) ∧ K z1) := by
  refine Sp.ofX k_X9_copyRow.1.1 (Nat.le_of_ble_eq_true rfl) ?_
  refine X.lv (lv2 := [(0, .ref b), (1, .ref a), (2, .int c)]) rfl ?_
  refine x_aload_n 0 d_X9_copyRow_0 rfl rfl ?_
  refine x_ifnull d_X9_copyRow_1 ?_
  refine x_aload_n 1 d_X9_copyRow_4 rfl rfl ?_
  refine x_ifnonnull (tgt := 9) d_X9_copyRow_5 (by decide) ?_
  refine x_iload_n 2 d_X9_copyRow_9 rfl rfl ?_
  refine x_aload_n 0 d_X9_copyRow_10 rfl rfl ?_
  refine x_alenI (hset_ne (by omega) ha_b) d_X9_copyRow_11 ?_
  refine x_aload_n 1 d_X9_copyRow_12 rfl rfl ?_
  refine x_alenI hset_at d_X9_copyRow_13 ?_
  refine x_mmin lk_X9_248 jw_min_s iw_Math jw_min_c (Nat.le_of_ble_eq_true rfl) (by omega) d_X9_copyRow_14 ?_
  refine x_mmin lk_X9_248 jw_min_s iw_Math jw_min_c (Nat.le_of_ble_eq_true rfl) (by omega) d_X9_copyRow_17 ?_
  refine x_topi (fun x1 e_x1 => ?_)
  have hQ := hQ x1 e_x1
  refine x_istore_n (lv2 := [(3, .int x1), (0, .ref b), (1, .ref a), (2, .int c)]) d_X9_copyRow_20 rfl (by decide) rfl ?_
  refine x_iload_n 0 d_X9_copyRow_21 rfl rfl ?_
  refine x_if_le (tgt := 33) d_X9_copyRow_22 (by decide) (fun c_22_2 => ?_) (fun c_22_2 => ?_)
  · have hQ := hQ.1 c_22_2
    exact x_vret (retV d_X9_copyRow_33 rfl) ⟨_, rfl, rfl, hQ⟩
  · have hQ := hQ.2 c_22_2
    refine x_aload_n 1 d_X9_copyRow_25 rfl rfl ?_
    refine x_iconst (v := (0 : Int32)) d_X9_copyRow_26 (by decide) ?_
    refine x_aload_n 2 d_X9_copyRow_27 rfl rfl ?_
    refine x_iconst (v := (0 : Int32)) d_X9_copyRow_28 (by decide) ?_
    refine x_iload_n 0 d_X9_copyRow_29 rfl rfl ?_
    have hN1 := hQ.1
    have hN2 := hQ.2.1
    have hN3 := hQ.2.2.1
    have hQ := hQ.2.2.2
    refine x_copy lk_X9_251 aw_n aw_s iw_System (hset_ne (by omega) ha_b) hset_at hN1 hN2 hN3 rfl (by omega) d_X9_copyRow_30 ?_
    obtain ⟨f3, e_f3⟩ : ∃ z : Nat → Int32, z = va_cpy (g) (f) 0 0 x1.toNatClampNeg := ⟨_, rfl⟩
    have hQ := hQ f3 e_f3
    refine X.world (w2 := hset w a (cI z f3)) (by rw [e_f3]; exact hset_hset) ?_
    exact x_vret (retV d_X9_copyRow_33 rfl) ⟨_, rfl, rfl, hQ⟩
theorem spa_X9_copyRow {G : GX} {l : Launch} {d : Nat} {w : HW} {a b : Nat} {y : Nat} {g : Nat → Int32} {z : Nat} {f : Nat → Int32} {c : Int32} {K : (Nat → Int32) → Prop} (hd : 1 ≤ d) (ha_a : w.1 a = some (cI z f)) (ha_b : w.1 b = some (cI y g)) (hn_0_1 : b ≠ a) (hQ : wp_X9_copyRow y g z f c K) : Sp G l m_X9_copyRow d 0 0 [.ref b, .ref a, .int c] w (fun r w2 => ∃ (z1 : Nat → Int32), r = none ∧ w2 = hset w a (cI z z1) ∧ K z1) := by
  have h := sp_X9_copyRow (G := G) (l := l) (w := w) (a := a) hd ha_b hn_0_1 hQ
  rw [hset_same ha_a] at h
  exact h
def lp_X0_pointsBefore_2 (s : RT) (u : Int32) (K : Int32 → Prop) : Nat → Int32 → Prop
  | 0, _ => False
  | n + 1, x_2 => (((40 : Int32) ≤ x_2 → K x_2) ∧ (¬ (40 : Int32) ≤ x_2 → (((s.2.2 0) ≤ x_2 → K x_2) ∧ (¬ (s.2.2 0) ≤ x_2 → wp_X9_pick 40 (s.1 14) x_2 (fun (r3 : Int32) => ((u ≤ r3 → K x_2) ∧ (¬ u ≤ r3 → ∀ x5 : Int32, x5 = x_2 + (1 : Int32) → lp_X0_pointsBefore_2 s u K n x5)))))))
set_option maxHeartbeats 4000000 in
theorem jt_X0_pointsBefore_2 {G : GX} {l : Launch} {d : Nat} {w : HW} {a : Nat} {s : RT} {u : Int32} {K : Int32 → Prop} (hd : 1 ≤ d) : ∀ (n : Nat) (x_2 : Int32), lp_X0_pointsBefore_2 s u K n x_2 → X G l m_X0_pointsBefore d 0 0 0 0 2 [(0, .ref (a + 13)), (1, .int u), (2, .int x_2)] [] (put w a 19 (shS a s)) (fun r w2 => ∃ (r1 : Int32), r = some (.int r1) ∧ w2 = put w a 19 (shS a s) ∧ K r1) := by
  intro n
  induction n with
  | zero =>
    intro x_2 hQ
    exact hQ.elim
  | succ n ih =>
    intro x_2 hQ
    refine x_iload_n 2 d_X0_pointsBefore_2 rfl rfl ?_
    refine x_bipush (v := (40 : Int32)) d_X0_pointsBefore_3 (by decide) ?_
    refine x_icmp_ge (tgt := 34) d_X0_pointsBefore_5 (by decide) (fun c_5_1 => ?_) (fun c_5_1 => ?_)
    · have hQ := hQ.1 c_5_1
      refine x_iload_n 2 d_X0_pointsBefore_34 rfl rfl ?_
      exact x_iret (retI d_X0_pointsBefore_35 rfl) ⟨_, rfl, rfl, hQ⟩
    · have hQ := hQ.2 c_5_1
      refine x_iload_n 2 d_X0_pointsBefore_8 rfl rfl ?_
      refine x_aload_n 0 d_X0_pointsBefore_9 rfl rfl ?_
      refine x_getf 3 gf_X0_21 gS_13 rfl d_X0_pointsBefore_10 ?_
      refine x_icmp_ge (tgt := 34) d_X0_pointsBefore_13 (by decide) (fun c_13_2 => ?_) (fun c_13_2 => ?_)
      · have hQ := hQ.1 c_13_2
        refine x_iload_n 2 d_X0_pointsBefore_34 rfl rfl ?_
        exact x_iret (retI d_X0_pointsBefore_35 rfl) ⟨_, rfl, rfl, hQ⟩
      · have hQ := hQ.2 c_13_2
        refine x_aload_n 0 d_X0_pointsBefore_16 rfl rfl ?_
        refine x_getf 0 gf_X0_9 gS_13 rfl d_X0_pointsBefore_17 ?_
        refine x_iload_n 2 d_X0_pointsBefore_20 rfl rfl ?_
        refine x_invSN (rest := []) (d' := d - 1) (mc' := 0) (ms' := 0) [.ref (a + 14), .int x_2] "LagSolver" k_X9_pick lk_X0_29 rfl rfl (Nat.le_of_ble_eq_true rfl) (by omega) (Nat.le_refl _) (Nat.le_refl _) d_X0_pointsBefore_21 ((sp_X9_pick (d := d - 1) (by omega) gS_14 hQ).mono (fun r w2 hr => ?_))
        obtain ⟨r3, rfl, rfl, hQ⟩ := hr
        refine x_iload_n 1 d_X0_pointsBefore_24 rfl rfl ?_
        refine x_icmp_ge (tgt := 34) d_X0_pointsBefore_25 (by decide) (fun c_25_4 => ?_) (fun c_25_4 => ?_)
        · have hQ := hQ.1 c_25_4
          refine x_iload_n 2 d_X0_pointsBefore_34 rfl rfl ?_
          exact x_iret (retI d_X0_pointsBefore_35 rfl) ⟨_, rfl, rfl, hQ⟩
        · have hQ := hQ.2 c_25_4
          obtain ⟨x5, e_x5⟩ : ∃ z : Int32, z = x_2 + (1 : Int32) := ⟨_, rfl⟩
          have hQ := hQ x5 e_x5
          refine x_iinc (v := x5) (lv2 := [(2, .int x5), (0, .ref (a + 13)), (1, .int u)]) 2 d_X0_pointsBefore_28 rfl (by rw [e_x5]; rfl) (by decide) rfl ?_
          refine x_goto (tgt := 2) d_X0_pointsBefore_31 (by decide) ?_
          refine x_sub [1, 2, 0] (lv2 := [(0, .ref (a + 13)), (1, .int u), (2, .int x5)]) rfl ?_
          exact ih x5 hQ
def wp_X0_pointsBefore (s : RT) (u : Int32) (K : Int32 → Prop) : Prop := ∃ m : Nat, lp_X0_pointsBefore_2 s u K m (0 : Int32)
set_option maxHeartbeats 4000000 in
theorem sp_X0_pointsBefore {G : GX} {l : Launch} {d : Nat} {w : HW} {a : Nat} {s : RT} {u : Int32} {K : Int32 → Prop} (hd : 1 ≤ d) (hQ : wp_X0_pointsBefore s u K) : Sp G l m_X0_pointsBefore d 0 0 [.ref (a + 13), .int u] (put w a 19 (shS a s)) (fun r w2 => ∃ (r1 : Int32), r = some (.int r1) ∧ w2 = put w a 19 (shS a s) ∧ K r1) := by
  refine Sp.ofX k_X0_pointsBefore.1.1 (Nat.le_of_ble_eq_true rfl) ?_
  refine X.lv (lv2 := [(0, .ref (a + 13)), (1, .int u)]) rfl ?_
  refine x_iconst (v := (0 : Int32)) d_X0_pointsBefore_0 (by decide) ?_
  refine x_istore_n (lv2 := [(2, .int (0 : Int32)), (0, .ref (a + 13)), (1, .int u)]) d_X0_pointsBefore_1 rfl (by decide) rfl ?_
  refine x_sub [1, 2, 0] (lv2 := [(0, .ref (a + 13)), (1, .int u), (2, .int (0 : Int32))]) rfl ?_
  obtain ⟨m, hQ⟩ := hQ
  exact jt_X0_pointsBefore_2 hd m (0 : Int32) hQ
def wp_X0_next (s : RT) (u : Int32) (K : Int32 → Prop) : Prop := wp_X0_pointsBefore s (u + (1 : Int32)) (fun (r1 : Int32) => (((s.2.2 0) ≤ r1 → K (8000 : Int32)) ∧ (¬ (s.2.2 0) ≤ r1 → wp_X9_pick 40 (s.1 14) r1 (fun (r3 : Int32) => K r3))))
set_option maxHeartbeats 4000000 in
theorem sp_X0_next {G : GX} {l : Launch} {d : Nat} {w : HW} {a : Nat} {s : RT} {u : Int32} {K : Int32 → Prop} (hd : 2 ≤ d) (hQ : wp_X0_next s u K) : Sp G l m_X0_next d 0 0 [.ref (a + 13), .int u] (put w a 19 (shS a s)) (fun r w2 => ∃ (r1 : Int32), r = some (.int r1) ∧ w2 = put w a 19 (shS a s) ∧ K r1) := by
  refine Sp.ofX k_X0_next.1.1 (Nat.le_of_ble_eq_true rfl) ?_
  refine X.lv (lv2 := [(0, .ref (a + 13)), (1, .int u)]) rfl ?_
  refine x_aload_n 0 d_X0_next_0 rfl rfl ?_
  refine x_iload_n 1 d_X0_next_1 rfl rfl ?_
  refine x_iconst (v := (1 : Int32)) d_X0_next_2 (by decide) ?_
  refine x_iadd d_X0_next_3 ?_
  refine x_invV (rest := []) (d' := d - 1) (mc' := 0) (ms' := 0) [.int (u + (1 : Int32))] k_X0_pointsBefore lk_X0_47 gS_13 rfl rfl rfl (Nat.le_of_ble_eq_true rfl) (by omega) (Nat.le_refl _) (Nat.le_refl _) d_X0_next_4 ((sp_X0_pointsBefore (d := d - 1) (by omega) hQ).mono (fun r w2 hr => ?_))
  obtain ⟨r1, rfl, rfl, hQ⟩ := hr
  refine x_istore_n (lv2 := [(2, .int r1), (0, .ref (a + 13)), (1, .int u)]) d_X0_next_7 rfl (by decide) rfl ?_
  refine x_iload_n 0 d_X0_next_8 rfl rfl ?_
  refine x_aload_n 1 d_X0_next_9 rfl rfl ?_
  refine x_getf 3 gf_X0_21 gS_13 rfl d_X0_next_10 ?_
  refine x_icmp_ge (tgt := 27) d_X0_next_13 (by decide) (fun c_13_2 => ?_) (fun c_13_2 => ?_)
  · have hQ := hQ.1 c_13_2
    refine x_sipush (v := (8000 : Int32)) d_X0_next_27 (by decide) ?_
    exact x_iret (retI d_X0_next_30 rfl) ⟨_, rfl, rfl, hQ⟩
  · have hQ := hQ.2 c_13_2
    refine x_aload_n 1 d_X0_next_16 rfl rfl ?_
    refine x_getf 0 gf_X0_9 gS_13 rfl d_X0_next_17 ?_
    refine x_iload_n 0 d_X0_next_20 rfl rfl ?_
    refine x_invSN (rest := []) (d' := d - 1) (mc' := 0) (ms' := 0) [.ref (a + 14), .int r1] "LagSolver" k_X9_pick lk_X0_29 rfl rfl (Nat.le_of_ble_eq_true rfl) (by omega) (Nat.le_refl _) (Nat.le_refl _) d_X0_next_21 ((sp_X9_pick (d := d - 1) (by omega) gS_14 hQ).mono (fun r w2 hr => ?_))
    obtain ⟨r3, rfl, rfl, hQ⟩ := hr
    refine x_goto (tgt := 30) d_X0_next_24 (by decide) ?_
    exact x_iret (retI d_X0_next_30 rfl) ⟨_, rfl, rfl, hQ⟩
def jp_X0_add_70 (u : Int32) (o : Int32) (e : Int32) (K : RT → Prop) (x_4 : Int32) (y_0 : RT) : Prop := (((y_0.2.2 0) < (40 : Int32) → wp_X9_makeRoom 40 (y_0.1 14) x_4 (y_0.2.2 0) (fun (f5 : Nat → Int32) => ∀ s6 : RT, s6 = rI y_0 14 f5 → wp_X9_makeRoom 40 (s6.1 15) x_4 (s6.2.2 0) (fun (f7 : Nat → Int32) => ∀ s8 : RT, s8 = rI s6 15 f7 → wp_X9_makeRoom 40 (s8.1 16) x_4 (s8.2.2 0) (fun (f9 : Nat → Int32) => ∀ s10 : RT, s10 = rI s8 16 f9 → wp_X9_put 40 (s10.1 14) x_4 u (fun (f11 : Nat → Int32) => ∀ s12 : RT, s12 = rI s10 14 f11 → wp_X9_put 40 (s12.1 15) x_4 o (fun (f13 : Nat → Int32) => ∀ s14 : RT, s14 = rI s12 15 f13 → wp_X9_put 40 (s14.1 16) x_4 e (fun (f15 : Nat → Int32) => ∀ s16 : RT, s16 = rI s14 16 f15 → ∀ s17 : RT, s17 = rS s16 0 ((s16.2.2 0) + (1 : Int32)) → K s17))))))) ∧ (¬ (y_0.2.2 0) < (40 : Int32) → K y_0))
set_option maxHeartbeats 4000000 in
theorem jt_X0_add_70 {G : GX} {l : Launch} {d : Nat} {w : HW} {a : Nat} {u : Int32} {o : Int32} {e : Int32} {K : RT → Prop} (hd : 2 ≤ d) (x_4 : Int32) (y_0 : RT) (hQ : jp_X0_add_70 u o e K x_4 y_0) : X G l m_X0_add d 0 0 0 0 70 [(0, .ref (a + 13)), (1, .int u), (2, .int o), (3, .int e), (4, .int x_4)] [] (put w a 19 (shS a y_0)) (fun r w2 => ∃ (z0 : RT), r = none ∧ w2 = put w a 19 (shS a z0) ∧ K z0) := by
  refine x_aload_n 0 d_X0_add_70 rfl rfl ?_
  refine x_getf 3 gf_X0_21 gS_13 rfl d_X0_add_71 ?_
  refine x_bipush (v := (40 : Int32)) d_X0_add_74 (by decide) ?_
  refine x_icmp_lt (tgt := 80) d_X0_add_76 (by decide) (fun c_76_4 => ?_) (fun c_76_4 => ?_)
  · have hQ := hQ.1 c_76_4
    refine x_aload_n 0 d_X0_add_80 rfl rfl ?_
    refine x_getf 0 gf_X0_9 gS_13 rfl d_X0_add_81 ?_
    refine x_iload 4 d_X0_add_84 rfl ?_
    refine x_aload_n 0 d_X0_add_86 rfl rfl ?_
    refine x_getf 3 gf_X0_21 gS_13 rfl d_X0_add_87 ?_
    refine x_invSN (rest := []) (d' := d - 1) (mc' := 0) (ms' := 0) [.ref (a + 14), .int x_4, .int (y_0.2.2 0)] "LagSolver" k_X9_makeRoom lk_X0_60 rfl rfl (Nat.le_of_ble_eq_true rfl) (by omega) (Nat.le_refl _) (Nat.le_refl _) d_X0_add_90 ((spa_X9_makeRoom (d := d - 1) (by omega) gS_14 hQ).mono (fun r w2 hr => ?_))
    obtain ⟨f5, rfl, rfl, hQ⟩ := hr
    obtain ⟨s6, e_s6⟩ : ∃ z : RT, z = rI y_0 14 f5 := ⟨_, rfl⟩
    have hQ := hQ s6 e_s6
    refine X.world (w2 := put w a 19 (shS a s6)) (by rw [e_s6]; exact sS_14) ?_
    refine x_aload_n 0 d_X0_add_93 rfl rfl ?_
    refine x_getf 1 gf_X0_15 gS_13 rfl d_X0_add_94 ?_
    refine x_iload 4 d_X0_add_97 rfl ?_
    refine x_aload_n 0 d_X0_add_99 rfl rfl ?_
    refine x_getf 3 gf_X0_21 gS_13 rfl d_X0_add_100 ?_
    refine x_invSN (rest := []) (d' := d - 1) (mc' := 0) (ms' := 0) [.ref (a + 15), .int x_4, .int (s6.2.2 0)] "LagSolver" k_X9_makeRoom lk_X0_60 rfl rfl (Nat.le_of_ble_eq_true rfl) (by omega) (Nat.le_refl _) (Nat.le_refl _) d_X0_add_103 ((spa_X9_makeRoom (d := d - 1) (by omega) gS_15 hQ).mono (fun r w2 hr => ?_))
    obtain ⟨f7, rfl, rfl, hQ⟩ := hr
    obtain ⟨s8, e_s8⟩ : ∃ z : RT, z = rI s6 15 f7 := ⟨_, rfl⟩
    have hQ := hQ s8 e_s8
    refine X.world (w2 := put w a 19 (shS a s8)) (by rw [e_s8]; exact sS_15) ?_
    refine x_aload_n 0 d_X0_add_106 rfl rfl ?_
    refine x_getf 2 gf_X0_18 gS_13 rfl d_X0_add_107 ?_
    refine x_iload 4 d_X0_add_110 rfl ?_
    refine x_aload_n 0 d_X0_add_112 rfl rfl ?_
    refine x_getf 3 gf_X0_21 gS_13 rfl d_X0_add_113 ?_
    refine x_invSN (rest := []) (d' := d - 1) (mc' := 0) (ms' := 0) [.ref (a + 16), .int x_4, .int (s8.2.2 0)] "LagSolver" k_X9_makeRoom lk_X0_60 rfl rfl (Nat.le_of_ble_eq_true rfl) (by omega) (Nat.le_refl _) (Nat.le_refl _) d_X0_add_116 ((spa_X9_makeRoom (d := d - 1) (by omega) gS_16 hQ).mono (fun r w2 hr => ?_))
    obtain ⟨f9, rfl, rfl, hQ⟩ := hr
    obtain ⟨s10, e_s10⟩ : ∃ z : RT, z = rI s8 16 f9 := ⟨_, rfl⟩
    have hQ := hQ s10 e_s10
    refine X.world (w2 := put w a 19 (shS a s10)) (by rw [e_s10]; exact sS_16) ?_
    refine x_aload_n 0 d_X0_add_119 rfl rfl ?_
    refine x_getf 0 gf_X0_9 gS_13 rfl d_X0_add_120 ?_
    refine x_iload 4 d_X0_add_123 rfl ?_
    refine x_iload_n 1 d_X0_add_125 rfl rfl ?_
    refine x_invSN (rest := []) (d' := d - 1) (mc' := 0) (ms' := 0) [.ref (a + 14), .int x_4, .int u] "LagSolver" k_X9_put lk_X0_56 rfl rfl (Nat.le_of_ble_eq_true rfl) (by omega) (Nat.le_refl _) (Nat.le_refl _) d_X0_add_126 ((spa_X9_put (d := d - 1) (by omega) gS_14 hQ).mono (fun r w2 hr => ?_))
    obtain ⟨f11, rfl, rfl, hQ⟩ := hr
    obtain ⟨s12, e_s12⟩ : ∃ z : RT, z = rI s10 14 f11 := ⟨_, rfl⟩
    have hQ := hQ s12 e_s12
    refine X.world (w2 := put w a 19 (shS a s12)) (by rw [e_s12]; exact sS_14) ?_
    refine x_aload_n 0 d_X0_add_129 rfl rfl ?_
    refine x_getf 1 gf_X0_15 gS_13 rfl d_X0_add_130 ?_
    refine x_iload 4 d_X0_add_133 rfl ?_
    refine x_iload_n 2 d_X0_add_135 rfl rfl ?_
    refine x_invSN (rest := []) (d' := d - 1) (mc' := 0) (ms' := 0) [.ref (a + 15), .int x_4, .int o] "LagSolver" k_X9_put lk_X0_56 rfl rfl (Nat.le_of_ble_eq_true rfl) (by omega) (Nat.le_refl _) (Nat.le_refl _) d_X0_add_136 ((spa_X9_put (d := d - 1) (by omega) gS_15 hQ).mono (fun r w2 hr => ?_))
    obtain ⟨f13, rfl, rfl, hQ⟩ := hr
    obtain ⟨s14, e_s14⟩ : ∃ z : RT, z = rI s12 15 f13 := ⟨_, rfl⟩
    have hQ := hQ s14 e_s14
    refine X.world (w2 := put w a 19 (shS a s14)) (by rw [e_s14]; exact sS_15) ?_
    refine x_aload_n 0 d_X0_add_139 rfl rfl ?_
    refine x_getf 2 gf_X0_18 gS_13 rfl d_X0_add_140 ?_
    refine x_iload 4 d_X0_add_143 rfl ?_
    refine x_iload_n 3 d_X0_add_145 rfl rfl ?_
    refine x_invSN (rest := []) (d' := d - 1) (mc' := 0) (ms' := 0) [.ref (a + 16), .int x_4, .int e] "LagSolver" k_X9_put lk_X0_56 rfl rfl (Nat.le_of_ble_eq_true rfl) (by omega) (Nat.le_refl _) (Nat.le_refl _) d_X0_add_146 ((spa_X9_put (d := d - 1) (by omega) gS_16 hQ).mono (fun r w2 hr => ?_))
    obtain ⟨f15, rfl, rfl, hQ⟩ := hr
    obtain ⟨s16, e_s16⟩ : ∃ z : RT, z = rI s14 16 f15 := ⟨_, rfl⟩
    have hQ := hQ s16 e_s16
    refine X.world (w2 := put w a 19 (shS a s16)) (by rw [e_s16]; exact sS_16) ?_
    refine x_aload_n 0 d_X0_add_149 rfl rfl ?_
    refine x_dup d_X0_add_150 rfl ?_
    refine x_getf 3 gf_X0_21 gS_13 rfl d_X0_add_151 ?_
    refine x_iconst (v := (1 : Int32)) d_X0_add_154 (by decide) ?_
    refine x_iadd d_X0_add_155 ?_
    refine x_putf 3 (.int) pf_X0_21 gS_13 rfl rfl (Nat.le_of_ble_eq_true rfl) d_X0_add_156 ?_
    obtain ⟨s17, e_s17⟩ : ∃ z : RT, z = rS s16 0 ((s16.2.2 0) + (1 : Int32)) := ⟨_, rfl⟩
    have hQ := hQ s17 e_s17
    refine X.world (w2 := put w a 19 (shS a s17)) (by rw [e_s17]; exact sS_13_0) ?_
    exact x_vret (retV d_X0_add_159 rfl) ⟨_, rfl, rfl, hQ⟩
  · have hQ := hQ.2 c_76_4
    exact x_vret (retV d_X0_add_79 rfl) ⟨_, rfl, rfl, hQ⟩
def wp_X0_add (s : RT) (u : Int32) (o : Int32) (e : Int32) (K : RT → Prop) : Prop := (((0 : Int32) < u → wp_X0_pointsBefore s u (fun (r2 : Int32) => (((s.2.2 0) ≤ r2 → jp_X0_add_70 u o e K r2 s) ∧ (¬ (s.2.2 0) ≤ r2 → wp_X9_pick 40 (s.1 14) r2 (fun (r18 : Int32) => ((¬ r18 = u → jp_X0_add_70 u o e K r2 s) ∧ (r18 = u → wp_X9_pick 40 (s.1 15) r2 (fun (r20 : Int32) => ((¬ r20 = o → K s) ∧ (r20 = o → wp_X9_pick 40 (s.1 16) r2 (fun (r22 : Int32) => wp_X9_put 40 (s.1 16) r2 (if r22 < e then r22 else e) (fun (f23 : Nat → Int32) => ∀ s24 : RT, s24 = rI s 16 f23 → K s24)))))))))))) ∧ (¬ (0 : Int32) < u → K s))
set_option maxHeartbeats 4000000 in
theorem sp_X0_add {G : GX} {l : Launch} {d : Nat} {w : HW} {a : Nat} {s : RT} {u : Int32} {o : Int32} {e : Int32} {K : RT → Prop} (hd : 2 ≤ d) (hQ : wp_X0_add s u o e K) : Sp G l m_X0_add d 0 0 [.ref (a + 13), .int u, .int o, .int e] (put w a 19 (shS a s)) (fun r w2 => ∃ (z0 : RT), r = none ∧ w2 = put w a 19 (shS a z0) ∧ K z0) := by
  refine Sp.ofX k_X0_add.1.1 (Nat.le_of_ble_eq_true rfl) ?_
  refine X.lv (lv2 := [(0, .ref (a + 13)), (1, .int u), (2, .int o), (3, .int e)]) rfl ?_
  refine x_iload_n 1 d_X0_add_0 rfl rfl ?_
  refine x_if_gt (tgt := 5) d_X0_add_1 (by decide) (fun c_1_1 => ?_) (fun c_1_1 => ?_)
  · have hQ := hQ.1 c_1_1
    refine x_aload_n 0 d_X0_add_5 rfl rfl ?_
    refine x_iload_n 1 d_X0_add_6 rfl rfl ?_
    refine x_invV (rest := []) (d' := d - 1) (mc' := 0) (ms' := 0) [.int u] k_X0_pointsBefore lk_X0_47 gS_13 rfl rfl rfl (Nat.le_of_ble_eq_true rfl) (by omega) (Nat.le_refl _) (Nat.le_refl _) d_X0_add_7 ((sp_X0_pointsBefore (d := d - 1) (by omega) hQ).mono (fun r w2 hr => ?_))
    obtain ⟨r2, rfl, rfl, hQ⟩ := hr
    refine x_istore (lv2 := [(4, .int r2), (0, .ref (a + 13)), (1, .int u), (2, .int o), (3, .int e)]) d_X0_add_10 (by decide) rfl ?_
    refine x_iload 0 d_X0_add_12 rfl ?_
    refine x_aload_n 1 d_X0_add_14 rfl rfl ?_
    refine x_getf 3 gf_X0_21 gS_13 rfl d_X0_add_15 ?_
    refine x_icmp_ge (tgt := 70) d_X0_add_18 (by decide) (fun c_18_3 => ?_) (fun c_18_3 => ?_)
    · have hQ := hQ.1 c_18_3
      refine x_sub [1, 2, 3, 4, 0] (lv2 := [(0, .ref (a + 13)), (1, .int u), (2, .int o), (3, .int e), (4, .int r2)]) rfl ?_
      exact jt_X0_add_70 hd r2 s hQ
    · have hQ := hQ.2 c_18_3
      refine x_aload_n 1 d_X0_add_21 rfl rfl ?_
      refine x_getf 0 gf_X0_9 gS_13 rfl d_X0_add_22 ?_
      refine x_iload 0 d_X0_add_25 rfl ?_
      refine x_invSN (rest := []) (d' := d - 1) (mc' := 0) (ms' := 0) [.ref (a + 14), .int r2] "LagSolver" k_X9_pick lk_X0_29 rfl rfl (Nat.le_of_ble_eq_true rfl) (by omega) (Nat.le_refl _) (Nat.le_refl _) d_X0_add_27 ((sp_X9_pick (d := d - 1) (by omega) gS_14 hQ).mono (fun r w2 hr => ?_))
      obtain ⟨r18, rfl, rfl, hQ⟩ := hr
      refine x_iload_n 2 d_X0_add_30 rfl rfl ?_
      refine x_icmp_ne (tgt := 70) d_X0_add_31 (by decide) (fun c_31_19 => ?_) (fun c_31_19 => ?_)
      · have hQ := hQ.1 c_31_19
        refine x_sub [1, 2, 3, 4, 0] (lv2 := [(0, .ref (a + 13)), (1, .int u), (2, .int o), (3, .int e), (4, .int r2)]) rfl ?_
        exact jt_X0_add_70 hd r2 s hQ
      · have hQ := hQ.2 c_31_19
        refine x_aload_n 1 d_X0_add_34 rfl rfl ?_
        refine x_getf 1 gf_X0_15 gS_13 rfl d_X0_add_35 ?_
        refine x_iload 0 d_X0_add_38 rfl ?_
        refine x_invSN (rest := []) (d' := d - 1) (mc' := 0) (ms' := 0) [.ref (a + 15), .int r2] "LagSolver" k_X9_pick lk_X0_29 rfl rfl (Nat.le_of_ble_eq_true rfl) (by omega) (Nat.le_refl _) (Nat.le_refl _) d_X0_add_40 ((sp_X9_pick (d := d - 1) (by omega) gS_15 hQ).mono (fun r w2 hr => ?_))
        obtain ⟨r20, rfl, rfl, hQ⟩ := hr
        refine x_iload_n 3 d_X0_add_43 rfl rfl ?_
        refine x_icmp_ne (tgt := 69) d_X0_add_44 (by decide) (fun c_44_21 => ?_) (fun c_44_21 => ?_)
        · have hQ := hQ.1 c_44_21
          exact x_vret (retV d_X0_add_69 rfl) ⟨_, rfl, rfl, hQ⟩
        · have hQ := hQ.2 c_44_21
          refine x_aload_n 1 d_X0_add_47 rfl rfl ?_
          refine x_getf 2 gf_X0_18 gS_13 rfl d_X0_add_48 ?_
          refine x_iload 0 d_X0_add_51 rfl ?_
          refine x_iload_n 4 d_X0_add_53 rfl rfl ?_
          refine x_aload_n 1 d_X0_add_54 rfl rfl ?_
          refine x_getf 2 gf_X0_18 gS_13 rfl d_X0_add_55 ?_
          refine x_iload 0 d_X0_add_58 rfl ?_
          refine x_invSN (rest := [.int e, .int r2, .ref (a + 16)]) (d' := d - 1) (mc' := 0) (ms' := 0) [.ref (a + 16), .int r2] "LagSolver" k_X9_pick lk_X0_29 rfl rfl (Nat.le_of_ble_eq_true rfl) (by omega) (Nat.le_refl _) (Nat.le_refl _) d_X0_add_60 ((sp_X9_pick (d := d - 1) (by omega) gS_16 hQ).mono (fun r w2 hr => ?_))
          obtain ⟨r22, rfl, rfl, hQ⟩ := hr
          refine x_mmin lk_X0_51 jw_min_s iw_Math jw_min_c (Nat.le_of_ble_eq_true rfl) (by omega) d_X0_add_63 ?_
          refine x_invSN (rest := []) (d' := d - 1) (mc' := 0) (ms' := 0) [.ref (a + 16), .int r2, .int (if r22 < e then r22 else e)] "LagSolver" k_X9_put lk_X0_56 rfl rfl (Nat.le_of_ble_eq_true rfl) (by omega) (Nat.le_refl _) (Nat.le_refl _) d_X0_add_66 ((spa_X9_put (d := d - 1) (by omega) gS_16 hQ).mono (fun r w2 hr => ?_))
          obtain ⟨f23, rfl, rfl, hQ⟩ := hr
          obtain ⟨s24, e_s24⟩ : ∃ z : RT, z = rI s 16 f23 := ⟨_, rfl⟩
          have hQ := hQ s24 e_s24
          refine X.world (w2 := put w a 19 (shS a s24)) (by rw [e_s24]; exact sS_16) ?_
          exact x_vret (retV d_X0_add_69 rfl) ⟨_, rfl, rfl, hQ⟩
  · have hQ := hQ.2 c_1_1
    exact x_vret (retV d_X0_add_4 rfl) ⟨_, rfl, rfl, hQ⟩
def lp_X0_addNext_27 (u : Int32) (o : Int32) (K : RT → Prop) (k_8 : Int32 → RT → Prop) : Nat → Int32 → Int32 → RT → Prop
  | 0, _, _, _ => False
  | n + 1, x_4, x_5, y_0 => (((3 : Int32) ≤ x_5 → ∀ x4 : Int32, x4 = x_4 + (1 : Int32) → k_8 x4 y_0) ∧ (¬ (3 : Int32) ≤ x_5 → wp_X9_pick 40 (y_0.1 15) x_4 (fun (r5 : Int32) => ((¬ r5 = o → ∀ x7 : Int32, x7 = x_5 + (1 : Int32) → lp_X0_addNext_27 u o K k_8 n x_4 x7 y_0) ∧ (r5 = o → wp_X9_hasBit u x_5 (fun (r8 : Int32) => ((r8 = (0 : Int32) → ∀ x10 : Int32, x10 = x_5 + (1 : Int32) → lp_X0_addNext_27 u o K k_8 n x_4 x10 y_0) ∧ (¬ r8 = (0 : Int32) → wp_X9_pick 40 (y_0.1 14) x_4 (fun (r11 : Int32) => wp_X3_reach y_0 x_5 r11 (fun (r12 : Int32) => wp_X0_add y_0 r12 (o + (1 : Int32)) x_5 (fun (s13 : RT) => ∀ x14 : Int32, x14 = x_5 + (1 : Int32) → lp_X0_addNext_27 u o K k_8 n x_4 x14 s13)))))))))))
set_option maxHeartbeats 4000000 in
theorem jt_X0_addNext_27 {G : GX} {l : Launch} {d : Nat} {w : HW} {a : Nat} {u : Int32} {o : Int32} {K : RT → Prop} {k_8 : Int32 → RT → Prop} (hd : 3 ≤ d) (hk_8 : ∀ (x_4 : Int32) (y_0 : RT), k_8 x_4 y_0 → X G l m_X0_addNext d 0 0 0 0 8 [(0, .ref (a + 13)), (1, .ref (a + 5)), (2, .int u), (3, .int o), (4, .int x_4)] [] (put w a 19 (shS a y_0)) (fun r w2 => ∃ (z0 : RT), r = none ∧ w2 = put w a 19 (shS a z0) ∧ K z0)) : ∀ (n : Nat) (x_4 : Int32) (x_5 : Int32) (y_0 : RT), lp_X0_addNext_27 u o K k_8 n x_4 x_5 y_0 → X G l m_X0_addNext d 0 0 0 0 27 [(0, .ref (a + 13)), (1, .ref (a + 5)), (2, .int u), (3, .int o), (4, .int x_4), (5, .int x_5)] [] (put w a 19 (shS a y_0)) (fun r w2 => ∃ (z0 : RT), r = none ∧ w2 = put w a 19 (shS a z0) ∧ K z0) := by
  intro n
  induction n with
  | zero =>
    intro x_4 x_5 y_0 hQ
    exact hQ.elim
  | succ n ih =>
    intro x_4 x_5 y_0 hQ
    refine x_iload 5 d_X0_addNext_27 rfl ?_
    refine x_iconst (v := (3 : Int32)) d_X0_addNext_29 (by decide) ?_
    refine x_icmp_ge (tgt := 85) d_X0_addNext_30 (by decide) (fun c_30_3 => ?_) (fun c_30_3 => ?_)
    · have hQ := hQ.1 c_30_3
      obtain ⟨x4, e_x4⟩ : ∃ z : Int32, z = x_4 + (1 : Int32) := ⟨_, rfl⟩
      have hQ := hQ x4 e_x4
      refine x_iinc (v := x4) (lv2 := [(4, .int x4), (0, .ref (a + 13)), (1, .ref (a + 5)), (2, .int u), (3, .int o), (5, .int x_5)]) 4 d_X0_addNext_85 rfl (by rw [e_x4]; rfl) (by decide) rfl ?_
      refine x_goto (tgt := 8) d_X0_addNext_88 (by decide) ?_
      refine x_sub [1, 2, 3, 4, 0] (lv2 := [(0, .ref (a + 13)), (1, .ref (a + 5)), (2, .int u), (3, .int o), (4, .int x4)]) rfl ?_
      exact hk_8 x4 y_0 hQ
    · have hQ := hQ.2 c_30_3
      refine x_aload_n 0 d_X0_addNext_33 rfl rfl ?_
      refine x_getf 1 gf_X0_15 gS_13 rfl d_X0_addNext_34 ?_
      refine x_iload 4 d_X0_addNext_37 rfl ?_
      refine x_invSN (rest := []) (d' := d - 1) (mc' := 0) (ms' := 0) [.ref (a + 15), .int x_4] "LagSolver" k_X9_pick lk_X0_29 rfl rfl (Nat.le_of_ble_eq_true rfl) (by omega) (Nat.le_refl _) (Nat.le_refl _) d_X0_addNext_39 ((sp_X9_pick (d := d - 1) (by omega) gS_15 hQ).mono (fun r w2 hr => ?_))
      obtain ⟨r5, rfl, rfl, hQ⟩ := hr
      refine x_iload_n 3 d_X0_addNext_42 rfl rfl ?_
      refine x_icmp_ne (tgt := 79) d_X0_addNext_43 (by decide) (fun c_43_6 => ?_) (fun c_43_6 => ?_)
      · have hQ := hQ.1 c_43_6
        obtain ⟨x7, e_x7⟩ : ∃ z : Int32, z = x_5 + (1 : Int32) := ⟨_, rfl⟩
        have hQ := hQ x7 e_x7
        refine x_iinc (v := x7) (lv2 := [(5, .int x7), (0, .ref (a + 13)), (1, .ref (a + 5)), (2, .int u), (3, .int o), (4, .int x_4)]) 5 d_X0_addNext_79 rfl (by rw [e_x7]; rfl) (by decide) rfl ?_
        refine x_goto (tgt := 27) d_X0_addNext_82 (by decide) ?_
        refine x_sub [1, 2, 3, 4, 5, 0] (lv2 := [(0, .ref (a + 13)), (1, .ref (a + 5)), (2, .int u), (3, .int o), (4, .int x_4), (5, .int x7)]) rfl ?_
        exact ih x_4 x7 y_0 hQ
      · have hQ := hQ.2 c_43_6
        refine x_iload_n 2 d_X0_addNext_46 rfl rfl ?_
        refine x_iload 5 d_X0_addNext_47 rfl ?_
        refine x_invSN (rest := []) (d' := d - 1) (mc' := 0) (ms' := 0) [.int u, .int x_5] "LagSolver" k_X9_hasBit lk_X0_33 rfl rfl (Nat.le_of_ble_eq_true rfl) (by omega) (Nat.le_refl _) (Nat.le_refl _) d_X0_addNext_49 ((sp_X9_hasBit (d := d - 1) (by omega) hQ).mono (fun r w2 hr => ?_))
        obtain ⟨r8, rfl, rfl, hQ⟩ := hr
        refine x_if_eq (tgt := 79) d_X0_addNext_52 (by decide) (fun c_52_9 => ?_) (fun c_52_9 => ?_)
        · have hQ := hQ.1 c_52_9
          obtain ⟨x10, e_x10⟩ : ∃ z : Int32, z = x_5 + (1 : Int32) := ⟨_, rfl⟩
          have hQ := hQ x10 e_x10
          refine x_iinc (v := x10) (lv2 := [(5, .int x10), (0, .ref (a + 13)), (1, .ref (a + 5)), (2, .int u), (3, .int o), (4, .int x_4)]) 5 d_X0_addNext_79 rfl (by rw [e_x10]; rfl) (by decide) rfl ?_
          refine x_goto (tgt := 27) d_X0_addNext_82 (by decide) ?_
          refine x_sub [1, 2, 3, 4, 5, 0] (lv2 := [(0, .ref (a + 13)), (1, .ref (a + 5)), (2, .int u), (3, .int o), (4, .int x_4), (5, .int x10)]) rfl ?_
          exact ih x_4 x10 y_0 hQ
        · have hQ := hQ.2 c_52_9
          refine x_aload_n 0 d_X0_addNext_55 rfl rfl ?_
          refine x_aload_n 1 d_X0_addNext_56 rfl rfl ?_
          refine x_iload 5 d_X0_addNext_57 rfl ?_
          refine x_aload_n 0 d_X0_addNext_59 rfl rfl ?_
          refine x_getf 0 gf_X0_9 gS_13 rfl d_X0_addNext_60 ?_
          refine x_iload 4 d_X0_addNext_63 rfl ?_
          refine x_invSN (rest := [.int x_5, .ref (a + 5), .ref (a + 13)]) (d' := d - 1) (mc' := 0) (ms' := 0) [.ref (a + 14), .int x_4] "LagSolver" k_X9_pick lk_X0_29 rfl rfl (Nat.le_of_ble_eq_true rfl) (by omega) (Nat.le_refl _) (Nat.le_refl _) d_X0_addNext_65 ((sp_X9_pick (d := d - 1) (by omega) gS_14 hQ).mono (fun r w2 hr => ?_))
          obtain ⟨r11, rfl, rfl, hQ⟩ := hr
          refine x_invV (rest := [.ref (a + 13)]) (d' := d - 1) (mc' := 0) (ms' := 0) [.int x_5, .int r11] k_X3_reach lk_X0_37 gS_5 rfl rfl rfl (Nat.le_of_ble_eq_true rfl) (by omega) (Nat.le_refl _) (Nat.le_refl _) d_X0_addNext_68 ((sp_X3_reach (d := d - 1) (by omega) hQ).mono (fun r w2 hr => ?_))
          obtain ⟨r12, rfl, rfl, hQ⟩ := hr
          refine x_iload_n 3 d_X0_addNext_71 rfl rfl ?_
          refine x_iconst (v := (1 : Int32)) d_X0_addNext_72 (by decide) ?_
          refine x_iadd d_X0_addNext_73 ?_
          refine x_iload 5 d_X0_addNext_74 rfl ?_
          refine x_invV (rest := []) (d' := d - 1) (mc' := 0) (ms' := 0) [.int r12, .int (o + (1 : Int32)), .int x_5] k_X0_add lk_X0_43 gS_13 rfl rfl rfl (Nat.le_of_ble_eq_true rfl) (by omega) (Nat.le_refl _) (Nat.le_refl _) d_X0_addNext_76 ((sp_X0_add (d := d - 1) (by omega) hQ).mono (fun r w2 hr => ?_))
          obtain ⟨s13, rfl, rfl, hQ⟩ := hr
          obtain ⟨x14, e_x14⟩ : ∃ z : Int32, z = x_5 + (1 : Int32) := ⟨_, rfl⟩
          have hQ := hQ x14 e_x14
          refine x_iinc (v := x14) (lv2 := [(5, .int x14), (0, .ref (a + 13)), (1, .ref (a + 5)), (2, .int u), (3, .int o), (4, .int x_4)]) 5 d_X0_addNext_79 rfl (by rw [e_x14]; rfl) (by decide) rfl ?_
          refine x_goto (tgt := 27) d_X0_addNext_82 (by decide) ?_
          refine x_sub [1, 2, 3, 4, 5, 0] (lv2 := [(0, .ref (a + 13)), (1, .ref (a + 5)), (2, .int u), (3, .int o), (4, .int x_4), (5, .int x14)]) rfl ?_
          exact ih x_4 x14 s13 hQ
def lp_X0_addNext_8 (u : Int32) (o : Int32) (K : RT → Prop) : Nat → Int32 → RT → Prop
  | 0, _, _ => False
  | n + 1, x_4, y_0 => (((40 : Int32) ≤ x_4 → K y_0) ∧ (¬ (40 : Int32) ≤ x_4 → (((y_0.2.2 0) ≤ x_4 → K y_0) ∧ (¬ (y_0.2.2 0) ≤ x_4 → ∃ m : Nat, lp_X0_addNext_27 u o K (fun v0 v1 => lp_X0_addNext_8 u o K n v0 v1) m x_4 (0 : Int32) y_0))))
set_option maxHeartbeats 4000000 in
theorem jt_X0_addNext_8 {G : GX} {l : Launch} {d : Nat} {w : HW} {a : Nat} {u : Int32} {o : Int32} {K : RT → Prop} (hd : 3 ≤ d) : ∀ (n : Nat) (x_4 : Int32) (y_0 : RT), lp_X0_addNext_8 u o K n x_4 y_0 → X G l m_X0_addNext d 0 0 0 0 8 [(0, .ref (a + 13)), (1, .ref (a + 5)), (2, .int u), (3, .int o), (4, .int x_4)] [] (put w a 19 (shS a y_0)) (fun r w2 => ∃ (z0 : RT), r = none ∧ w2 = put w a 19 (shS a z0) ∧ K z0) := by
  intro n
  induction n with
  | zero =>
    intro x_4 y_0 hQ
    exact hQ.elim
  | succ n ih =>
    intro x_4 y_0 hQ
    refine x_iload 4 d_X0_addNext_8 rfl ?_
    refine x_bipush (v := (40 : Int32)) d_X0_addNext_10 (by decide) ?_
    refine x_icmp_ge (tgt := 91) d_X0_addNext_12 (by decide) (fun c_12_1 => ?_) (fun c_12_1 => ?_)
    · have hQ := hQ.1 c_12_1
      exact x_vret (retV d_X0_addNext_91 rfl) ⟨_, rfl, rfl, hQ⟩
    · have hQ := hQ.2 c_12_1
      refine x_iload 4 d_X0_addNext_15 rfl ?_
      refine x_aload_n 0 d_X0_addNext_17 rfl rfl ?_
      refine x_getf 3 gf_X0_21 gS_13 rfl d_X0_addNext_18 ?_
      refine x_icmp_ge (tgt := 91) d_X0_addNext_21 (by decide) (fun c_21_2 => ?_) (fun c_21_2 => ?_)
      · have hQ := hQ.1 c_21_2
        exact x_vret (retV d_X0_addNext_91 rfl) ⟨_, rfl, rfl, hQ⟩
      · have hQ := hQ.2 c_21_2
        refine x_iconst (v := (0 : Int32)) d_X0_addNext_24 (by decide) ?_
        refine x_istore (lv2 := [(5, .int (0 : Int32)), (0, .ref (a + 13)), (1, .ref (a + 5)), (2, .int u), (3, .int o), (4, .int x_4)]) d_X0_addNext_25 (by decide) rfl ?_
        refine x_sub [1, 2, 3, 4, 5, 0] (lv2 := [(0, .ref (a + 13)), (1, .ref (a + 5)), (2, .int u), (3, .int o), (4, .int x_4), (5, .int (0 : Int32))]) rfl ?_
        obtain ⟨m, hQ⟩ := hQ
        exact jt_X0_addNext_27 hd ih m x_4 (0 : Int32) y_0 hQ
def wp_X0_addNext (s : RT) (u : Int32) (o : Int32) (K : RT → Prop) : Prop := ∃ m : Nat, lp_X0_addNext_8 u o K m (0 : Int32) s
set_option maxHeartbeats 4000000 in
theorem sp_X0_addNext {G : GX} {l : Launch} {d : Nat} {w : HW} {a : Nat} {s : RT} {u : Int32} {o : Int32} {K : RT → Prop} (hd : 3 ≤ d) (hQ : wp_X0_addNext s u o K) : Sp G l m_X0_addNext d 0 0 [.ref (a + 13), .ref (a + 5), .int u, .int o] (put w a 19 (shS a s)) (fun r w2 => ∃ (z0 : RT), r = none ∧ w2 = put w a 19 (shS a z0) ∧ K z0) := by
  refine Sp.ofX k_X0_addNext.1.1 (Nat.le_of_ble_eq_true rfl) ?_
  refine X.lv (lv2 := [(0, .ref (a + 13)), (1, .ref (a + 5)), (2, .int u), (3, .int o)]) rfl ?_
  refine x_aload_n 1 d_X0_addNext_0 rfl rfl ?_
  refine x_ifnonnull (tgt := 5) d_X0_addNext_1 (by decide) ?_
  refine x_iconst (v := (0 : Int32)) d_X0_addNext_5 (by decide) ?_
  refine x_istore (lv2 := [(4, .int (0 : Int32)), (0, .ref (a + 13)), (1, .ref (a + 5)), (2, .int u), (3, .int o)]) d_X0_addNext_6 (by decide) rfl ?_
  refine x_sub [1, 2, 3, 4, 0] (lv2 := [(0, .ref (a + 13)), (1, .ref (a + 5)), (2, .int u), (3, .int o), (4, .int (0 : Int32))]) rfl ?_
  obtain ⟨m, hQ⟩ := hQ
  exact jt_X0_addNext_8 hd m (0 : Int32) s hQ
def lp_X0_find_8 (u : Int32) (o : Int32) (K : RT → Prop) : Nat → Int32 → RT → Prop
  | 0, _, _ => False
  | n + 1, x_4, y_0 => ((o ≤ x_4 → K y_0) ∧ (¬ o ≤ x_4 → wp_X0_addNext y_0 u x_4 (fun (s3 : RT) => ∀ x4 : Int32, x4 = x_4 + (1 : Int32) → lp_X0_find_8 u o K n x4 s3)))
set_option maxHeartbeats 4000000 in
theorem jt_X0_find_8 {G : GX} {l : Launch} {d : Nat} {w : HW} {a : Nat} {u : Int32} {o : Int32} {K : RT → Prop} (hd : 4 ≤ d) : ∀ (n : Nat) (x_4 : Int32) (y_0 : RT), lp_X0_find_8 u o K n x_4 y_0 → X G l m_X0_find d 0 0 0 0 8 [(0, .ref (a + 13)), (1, .ref (a + 5)), (2, .int u), (3, .int o), (4, .int x_4)] [] (put w a 19 (shS a y_0)) (fun r w2 => ∃ (z0 : RT), r = none ∧ w2 = put w a 19 (shS a z0) ∧ K z0) := by
  intro n
  induction n with
  | zero =>
    intro x_4 y_0 hQ
    exact hQ.elim
  | succ n ih =>
    intro x_4 y_0 hQ
    refine x_iload 4 d_X0_find_8 rfl ?_
    refine x_iload_n 3 d_X0_find_10 rfl rfl ?_
    refine x_icmp_ge (tgt := 28) d_X0_find_11 (by decide) (fun c_11_2 => ?_) (fun c_11_2 => ?_)
    · have hQ := hQ.1 c_11_2
      exact x_vret (retV d_X0_find_28 rfl) ⟨_, rfl, rfl, hQ⟩
    · have hQ := hQ.2 c_11_2
      refine x_aload_n 0 d_X0_find_14 rfl rfl ?_
      refine x_aload_n 1 d_X0_find_15 rfl rfl ?_
      refine x_iload_n 2 d_X0_find_16 rfl rfl ?_
      refine x_iload 4 d_X0_find_17 rfl ?_
      refine x_invV (rest := []) (d' := d - 1) (mc' := 0) (ms' := 0) [.ref (a + 5), .int u, .int x_4] k_X0_addNext lk_X0_25 gS_13 rfl rfl rfl (Nat.le_of_ble_eq_true rfl) (by omega) (Nat.le_refl _) (Nat.le_refl _) d_X0_find_19 ((sp_X0_addNext (d := d - 1) (by omega) hQ).mono (fun r w2 hr => ?_))
      obtain ⟨s3, rfl, rfl, hQ⟩ := hr
      obtain ⟨x4, e_x4⟩ : ∃ z : Int32, z = x_4 + (1 : Int32) := ⟨_, rfl⟩
      have hQ := hQ x4 e_x4
      refine x_iinc (v := x4) (lv2 := [(4, .int x4), (0, .ref (a + 13)), (1, .ref (a + 5)), (2, .int u), (3, .int o)]) 4 d_X0_find_22 rfl (by rw [e_x4]; rfl) (by decide) rfl ?_
      refine x_goto (tgt := 8) d_X0_find_25 (by decide) ?_
      refine x_sub [1, 2, 3, 4, 0] (lv2 := [(0, .ref (a + 13)), (1, .ref (a + 5)), (2, .int u), (3, .int o), (4, .int x4)]) rfl ?_
      exact ih x4 s3 hQ
def wp_X0_find (s : RT) (u : Int32) (o : Int32) (K : RT → Prop) : Prop := ∀ s1 : RT, s1 = rS s 0 (1 : Int32) → ∃ m : Nat, lp_X0_find_8 u o K m (0 : Int32) s1
set_option maxHeartbeats 4000000 in
theorem sp_X0_find {G : GX} {l : Launch} {d : Nat} {w : HW} {a : Nat} {s : RT} {u : Int32} {o : Int32} {K : RT → Prop} (hd : 4 ≤ d) (hQ : wp_X0_find s u o K) : Sp G l m_X0_find d 0 0 [.ref (a + 13), .ref (a + 5), .int u, .int o] (put w a 19 (shS a s)) (fun r w2 => ∃ (z0 : RT), r = none ∧ w2 = put w a 19 (shS a z0) ∧ K z0) := by
  refine Sp.ofX k_X0_find.1.1 (Nat.le_of_ble_eq_true rfl) ?_
  refine X.lv (lv2 := [(0, .ref (a + 13)), (1, .ref (a + 5)), (2, .int u), (3, .int o)]) rfl ?_
  refine x_aload_n 0 d_X0_find_0 rfl rfl ?_
  refine x_iconst (v := (1 : Int32)) d_X0_find_1 (by decide) ?_
  refine x_putf 3 (.int) pf_X0_21 gS_13 rfl rfl (Nat.le_of_ble_eq_true rfl) d_X0_find_2 ?_
  obtain ⟨s1, e_s1⟩ : ∃ z : RT, z = rS s 0 (1 : Int32) := ⟨_, rfl⟩
  have hQ := hQ s1 e_s1
  refine X.world (w2 := put w a 19 (shS a s1)) (by rw [e_s1]; exact sS_13_0) ?_
  refine x_iconst (v := (0 : Int32)) d_X0_find_5 (by decide) ?_
  refine x_istore (lv2 := [(4, .int (0 : Int32)), (0, .ref (a + 13)), (1, .ref (a + 5)), (2, .int u), (3, .int o)]) d_X0_find_6 (by decide) rfl ?_
  refine x_sub [1, 2, 3, 4, 0] (lv2 := [(0, .ref (a + 13)), (1, .ref (a + 5)), (2, .int u), (3, .int o), (4, .int (0 : Int32))]) rfl ?_
  obtain ⟨m, hQ⟩ := hQ
  exact jt_X0_find_8 hd m (0 : Int32) s1 hQ
def lp_X1_pointsUpTo_17 (s : RT) (i : Int32) (u : Int32) (K : Int32 → Prop) : Nat → Int32 → Int32 → Prop
  | 0, _, _ => False
  | n + 1, x_3, x_4 => ((x_3 ≤ x_4 → K x_4) ∧ (¬ x_3 ≤ x_4 → wp_X9_pick 18 (s.1 10) ((i * (6 : Int32)) + x_4) (fun (r4 : Int32) => ((u < r4 → K x_4) ∧ (¬ u < r4 → ∀ x6 : Int32, x6 = x_4 + (1 : Int32) → lp_X1_pointsUpTo_17 s i u K n x_3 x6)))))
set_option maxHeartbeats 4000000 in
theorem jt_X1_pointsUpTo_17 {G : GX} {l : Launch} {d : Nat} {w : HW} {a : Nat} {s : RT} {i : Int32} {u : Int32} {K : Int32 → Prop} (hd : 1 ≤ d) : ∀ (n : Nat) (x_3 : Int32) (x_4 : Int32), lp_X1_pointsUpTo_17 s i u K n x_3 x_4 → X G l m_X1_pointsUpTo d 0 0 0 0 17 [(0, .ref (a + 8)), (1, .int i), (2, .int u), (3, .int x_3), (4, .int x_4)] [] (put w a 19 (shS a s)) (fun r w2 => ∃ (r1 : Int32), r = some (.int r1) ∧ w2 = put w a 19 (shS a s) ∧ K r1) := by
  intro n
  induction n with
  | zero =>
    intro x_3 x_4 hQ
    exact hQ.elim
  | succ n ih =>
    intro x_3 x_4 hQ
    refine x_iload 4 d_X1_pointsUpTo_17 rfl ?_
    refine x_iload_n 3 d_X1_pointsUpTo_19 rfl rfl ?_
    refine x_icmp_ge (tgt := 47) d_X1_pointsUpTo_20 (by decide) (fun c_20_3 => ?_) (fun c_20_3 => ?_)
    · have hQ := hQ.1 c_20_3
      refine x_iload 4 d_X1_pointsUpTo_47 rfl ?_
      exact x_iret (retI d_X1_pointsUpTo_49 rfl) ⟨_, rfl, rfl, hQ⟩
    · have hQ := hQ.2 c_20_3
      refine x_aload_n 0 d_X1_pointsUpTo_23 rfl rfl ?_
      refine x_getf 1 gf_X1_15 gS_8 rfl d_X1_pointsUpTo_24 ?_
      refine x_iload_n 1 d_X1_pointsUpTo_27 rfl rfl ?_
      refine x_bipush (v := (6 : Int32)) d_X1_pointsUpTo_28 (by decide) ?_
      refine x_imul d_X1_pointsUpTo_30 ?_
      refine x_iload 4 d_X1_pointsUpTo_31 rfl ?_
      refine x_iadd d_X1_pointsUpTo_33 ?_
      refine x_invSN (rest := []) (d' := d - 1) (mc' := 0) (ms' := 0) [.ref (a + 10), .int ((i * (6 : Int32)) + x_4)] "LagSolver" k_X9_pick lk_X1_25 rfl rfl (Nat.le_of_ble_eq_true rfl) (by omega) (Nat.le_refl _) (Nat.le_refl _) d_X1_pointsUpTo_34 ((sp_X9_pick (d := d - 1) (by omega) gS_10 hQ).mono (fun r w2 hr => ?_))
      obtain ⟨r4, rfl, rfl, hQ⟩ := hr
      refine x_iload_n 2 d_X1_pointsUpTo_37 rfl rfl ?_
      refine x_icmp_gt (tgt := 47) d_X1_pointsUpTo_38 (by decide) (fun c_38_5 => ?_) (fun c_38_5 => ?_)
      · have hQ := hQ.1 c_38_5
        refine x_iload 4 d_X1_pointsUpTo_47 rfl ?_
        exact x_iret (retI d_X1_pointsUpTo_49 rfl) ⟨_, rfl, rfl, hQ⟩
      · have hQ := hQ.2 c_38_5
        obtain ⟨x6, e_x6⟩ : ∃ z : Int32, z = x_4 + (1 : Int32) := ⟨_, rfl⟩
        have hQ := hQ x6 e_x6
        refine x_iinc (v := x6) (lv2 := [(4, .int x6), (0, .ref (a + 8)), (1, .int i), (2, .int u), (3, .int x_3)]) 4 d_X1_pointsUpTo_41 rfl (by rw [e_x6]; rfl) (by decide) rfl ?_
        refine x_goto (tgt := 17) d_X1_pointsUpTo_44 (by decide) ?_
        refine x_sub [1, 2, 3, 4, 0] (lv2 := [(0, .ref (a + 8)), (1, .int i), (2, .int u), (3, .int x_3), (4, .int x6)]) rfl ?_
        exact ih x_3 x6 hQ
def wp_X1_pointsUpTo (s : RT) (i : Int32) (u : Int32) (K : Int32 → Prop) : Prop := wp_X9_pick 3 (s.1 9) i (fun (r1 : Int32) => ∀ x2 : Int32, x2 = (if r1 < (6 : Int32) then r1 else (6 : Int32)) → ∃ m : Nat, lp_X1_pointsUpTo_17 s i u K m x2 (0 : Int32))
set_option maxHeartbeats 4000000 in
theorem sp_X1_pointsUpTo {G : GX} {l : Launch} {d : Nat} {w : HW} {a : Nat} {s : RT} {i : Int32} {u : Int32} {K : Int32 → Prop} (hd : 1 ≤ d) (hQ : wp_X1_pointsUpTo s i u K) : Sp G l m_X1_pointsUpTo d 0 0 [.ref (a + 8), .int i, .int u] (put w a 19 (shS a s)) (fun r w2 => ∃ (r1 : Int32), r = some (.int r1) ∧ w2 = put w a 19 (shS a s) ∧ K r1) := by
  refine Sp.ofX k_X1_pointsUpTo.1.1 (Nat.le_of_ble_eq_true rfl) ?_
  refine X.lv (lv2 := [(0, .ref (a + 8)), (1, .int i), (2, .int u)]) rfl ?_
  refine x_bipush (v := (6 : Int32)) d_X1_pointsUpTo_0 (by decide) ?_
  refine x_aload_n 0 d_X1_pointsUpTo_2 rfl rfl ?_
  refine x_getf 0 gf_X1_9 gS_8 rfl d_X1_pointsUpTo_3 ?_
  refine x_iload_n 1 d_X1_pointsUpTo_6 rfl rfl ?_
  refine x_invSN (rest := [.int (6 : Int32)]) (d' := d - 1) (mc' := 0) (ms' := 0) [.ref (a + 9), .int i] "LagSolver" k_X9_pick lk_X1_25 rfl rfl (Nat.le_of_ble_eq_true rfl) (by omega) (Nat.le_refl _) (Nat.le_refl _) d_X1_pointsUpTo_7 ((sp_X9_pick (d := d - 1) (by omega) gS_9 hQ).mono (fun r w2 hr => ?_))
  obtain ⟨r1, rfl, rfl, hQ⟩ := hr
  refine x_mmin lk_X1_42 jw_min_s iw_Math jw_min_c (Nat.le_of_ble_eq_true rfl) (by omega) d_X1_pointsUpTo_10 ?_
  refine x_topi (fun x2 e_x2 => ?_)
  have hQ := hQ x2 e_x2
  refine x_istore_n (lv2 := [(3, .int x2), (0, .ref (a + 8)), (1, .int i), (2, .int u)]) d_X1_pointsUpTo_13 rfl (by decide) rfl ?_
  refine x_iconst (v := (0 : Int32)) d_X1_pointsUpTo_14 (by decide) ?_
  refine x_istore (lv2 := [(4, .int (0 : Int32)), (3, .int x2), (0, .ref (a + 8)), (1, .int i), (2, .int u)]) d_X1_pointsUpTo_15 (by decide) rfl ?_
  refine x_sub [2, 3, 4, 1, 0] (lv2 := [(0, .ref (a + 8)), (1, .int i), (2, .int u), (3, .int x2), (4, .int (0 : Int32))]) rfl ?_
  obtain ⟨m, hQ⟩ := hQ
  exact jt_X1_pointsUpTo_17 hd m x2 (0 : Int32) hQ
def wp_X1_hasPointAt (s : RT) (i : Int32) (u : Int32) (K : Int32 → Prop) : Prop := wp_X1_pointsUpTo s i u (fun (r1 : Int32) => ((r1 ≤ (0 : Int32) → K (0 : Int32)) ∧ (¬ r1 ≤ (0 : Int32) → wp_X9_pick 18 (s.1 10) (((i * (6 : Int32)) + r1) - (1 : Int32)) (fun (r3 : Int32) => ((¬ r3 = u → K (0 : Int32)) ∧ (r3 = u → K (1 : Int32)))))))
set_option maxHeartbeats 4000000 in
theorem sp_X1_hasPointAt {G : GX} {l : Launch} {d : Nat} {w : HW} {a : Nat} {s : RT} {i : Int32} {u : Int32} {K : Int32 → Prop} (hd : 2 ≤ d) (hQ : wp_X1_hasPointAt s i u K) : Sp G l m_X1_hasPointAt d 0 0 [.ref (a + 8), .int i, .int u] (put w a 19 (shS a s)) (fun r w2 => ∃ (r1 : Int32), r = some (.int r1) ∧ w2 = put w a 19 (shS a s) ∧ K r1) := by
  refine Sp.ofX k_X1_hasPointAt.1.1 (Nat.le_of_ble_eq_true rfl) ?_
  refine X.lv (lv2 := [(0, .ref (a + 8)), (1, .int i), (2, .int u)]) rfl ?_
  refine x_aload_n 0 d_X1_hasPointAt_0 rfl rfl ?_
  refine x_iload_n 1 d_X1_hasPointAt_1 rfl rfl ?_
  refine x_iload_n 2 d_X1_hasPointAt_2 rfl rfl ?_
  refine x_invV (rest := []) (d' := d - 1) (mc' := 0) (ms' := 0) [.int i, .int u] k_X1_pointsUpTo lk_X1_21 gS_8 rfl rfl rfl (Nat.le_of_ble_eq_true rfl) (by omega) (Nat.le_refl _) (Nat.le_refl _) d_X1_hasPointAt_3 ((sp_X1_pointsUpTo (d := d - 1) (by omega) hQ).mono (fun r w2 hr => ?_))
  obtain ⟨r1, rfl, rfl, hQ⟩ := hr
  refine x_istore_n (lv2 := [(3, .int r1), (0, .ref (a + 8)), (1, .int i), (2, .int u)]) d_X1_hasPointAt_6 rfl (by decide) rfl ?_
  refine x_iload_n 0 d_X1_hasPointAt_7 rfl rfl ?_
  refine x_if_le (tgt := 34) d_X1_hasPointAt_8 (by decide) (fun c_8_2 => ?_) (fun c_8_2 => ?_)
  · have hQ := hQ.1 c_8_2
    refine x_iconst (v := (0 : Int32)) d_X1_hasPointAt_34 (by decide) ?_
    exact x_iret (retB d_X1_hasPointAt_35 rfl rfl) ⟨_, rfl, rfl, hQ⟩
  · have hQ := hQ.2 c_8_2
    refine x_aload_n 1 d_X1_hasPointAt_11 rfl rfl ?_
    refine x_getf 1 gf_X1_15 gS_8 rfl d_X1_hasPointAt_12 ?_
    refine x_iload_n 2 d_X1_hasPointAt_15 rfl rfl ?_
    refine x_bipush (v := (6 : Int32)) d_X1_hasPointAt_16 (by decide) ?_
    refine x_imul d_X1_hasPointAt_18 ?_
    refine x_iload_n 0 d_X1_hasPointAt_19 rfl rfl ?_
    refine x_iadd d_X1_hasPointAt_20 ?_
    refine x_iconst (v := (1 : Int32)) d_X1_hasPointAt_21 (by decide) ?_
    refine x_isub d_X1_hasPointAt_22 ?_
    refine x_invSN (rest := []) (d' := d - 1) (mc' := 0) (ms' := 0) [.ref (a + 10), .int (((i * (6 : Int32)) + r1) - (1 : Int32))] "LagSolver" k_X9_pick lk_X1_25 rfl rfl (Nat.le_of_ble_eq_true rfl) (by omega) (Nat.le_refl _) (Nat.le_refl _) d_X1_hasPointAt_23 ((sp_X9_pick (d := d - 1) (by omega) gS_10 hQ).mono (fun r w2 hr => ?_))
    obtain ⟨r3, rfl, rfl, hQ⟩ := hr
    refine x_iload_n 3 d_X1_hasPointAt_26 rfl rfl ?_
    refine x_icmp_ne (tgt := 34) d_X1_hasPointAt_27 (by decide) (fun c_27_4 => ?_) (fun c_27_4 => ?_)
    · have hQ := hQ.1 c_27_4
      refine x_iconst (v := (0 : Int32)) d_X1_hasPointAt_34 (by decide) ?_
      exact x_iret (retB d_X1_hasPointAt_35 rfl rfl) ⟨_, rfl, rfl, hQ⟩
    · have hQ := hQ.2 c_27_4
      refine x_iconst (v := (1 : Int32)) d_X1_hasPointAt_30 (by decide) ?_
      refine x_goto (tgt := 35) d_X1_hasPointAt_31 (by decide) ?_
      exact x_iret (retB d_X1_hasPointAt_35 rfl rfl) ⟨_, rfl, rfl, hQ⟩
def wp_X1_add (s : RT) (i : Int32) (u : Int32) (x : Int32) (K : RT → Prop) : Prop := wp_X9_pick 3 (s.1 9) i (fun (r1 : Int32) => ((r1 < (6 : Int32) → ∀ x3 : Int32, x3 = i * (6 : Int32) → wp_X1_pointsUpTo s i u (fun (r4 : Int32) => ∀ x5 : Int32, x5 = x3 + r4 → wp_X9_makeRoom 18 (s.1 10) x5 (x3 + r1) (fun (f6 : Nat → Int32) => ∀ s7 : RT, s7 = rI s 10 f6 → wp_X9_makeRoom 18 (s7.1 11) x5 (x3 + r1) (fun (f8 : Nat → Int32) => ∀ s9 : RT, s9 = rI s7 11 f8 → wp_X9_put 18 (s9.1 10) x5 u (fun (f10 : Nat → Int32) => ∀ s11 : RT, s11 = rI s9 10 f10 → wp_X9_put 18 (s11.1 11) x5 x (fun (f12 : Nat → Int32) => ∀ s13 : RT, s13 = rI s11 11 f12 → wp_X9_put 3 (s13.1 9) i (r1 + (1 : Int32)) (fun (f14 : Nat → Int32) => ∀ s15 : RT, s15 = rI s13 9 f14 → K s15))))))) ∧ (¬ r1 < (6 : Int32) → K s)))
set_option maxHeartbeats 4000000 in
theorem sp_X1_add {G : GX} {l : Launch} {d : Nat} {w : HW} {a : Nat} {s : RT} {i : Int32} {u : Int32} {x : Int32} {K : RT → Prop} (hd : 2 ≤ d) (hQ : wp_X1_add s i u x K) : Sp G l m_X1_add d 0 0 [.ref (a + 8), .int i, .int u, .int x] (put w a 19 (shS a s)) (fun r w2 => ∃ (z0 : RT), r = none ∧ w2 = put w a 19 (shS a z0) ∧ K z0) := by
  refine Sp.ofX k_X1_add.1.1 (Nat.le_of_ble_eq_true rfl) ?_
  refine X.lv (lv2 := [(0, .ref (a + 8)), (1, .int i), (2, .int u), (3, .int x)]) rfl ?_
  refine x_aload_n 0 d_X1_add_0 rfl rfl ?_
  refine x_getf 0 gf_X1_9 gS_8 rfl d_X1_add_1 ?_
  refine x_iload_n 1 d_X1_add_4 rfl rfl ?_
  refine x_invSN (rest := []) (d' := d - 1) (mc' := 0) (ms' := 0) [.ref (a + 9), .int i] "LagSolver" k_X9_pick lk_X1_25 rfl rfl (Nat.le_of_ble_eq_true rfl) (by omega) (Nat.le_refl _) (Nat.le_refl _) d_X1_add_5 ((sp_X9_pick (d := d - 1) (by omega) gS_9 hQ).mono (fun r w2 hr => ?_))
  obtain ⟨r1, rfl, rfl, hQ⟩ := hr
  refine x_istore (lv2 := [(4, .int r1), (0, .ref (a + 8)), (1, .int i), (2, .int u), (3, .int x)]) d_X1_add_8 (by decide) rfl ?_
  refine x_iload 0 d_X1_add_10 rfl ?_
  refine x_bipush (v := (6 : Int32)) d_X1_add_12 (by decide) ?_
  refine x_icmp_lt (tgt := 18) d_X1_add_14 (by decide) (fun c_14_2 => ?_) (fun c_14_2 => ?_)
  · have hQ := hQ.1 c_14_2
    refine x_iload_n 2 d_X1_add_18 rfl rfl ?_
    refine x_bipush (v := (6 : Int32)) d_X1_add_19 (by decide) ?_
    refine x_imul d_X1_add_21 ?_
    refine x_topi (fun x3 e_x3 => ?_)
    have hQ := hQ x3 e_x3
    refine x_istore (lv2 := [(5, .int x3), (4, .int r1), (0, .ref (a + 8)), (1, .int i), (2, .int u), (3, .int x)]) d_X1_add_22 (by decide) rfl ?_
    refine x_iload 0 d_X1_add_24 rfl ?_
    refine x_aload_n 2 d_X1_add_26 rfl rfl ?_
    refine x_iload_n 3 d_X1_add_27 rfl rfl ?_
    refine x_iload_n 4 d_X1_add_28 rfl rfl ?_
    refine x_invV (rest := [.int x3]) (d' := d - 1) (mc' := 0) (ms' := 0) [.int i, .int u] k_X1_pointsUpTo lk_X1_21 gS_8 rfl rfl rfl (Nat.le_of_ble_eq_true rfl) (by omega) (Nat.le_refl _) (Nat.le_refl _) d_X1_add_29 ((sp_X1_pointsUpTo (d := d - 1) (by omega) hQ).mono (fun r w2 hr => ?_))
    obtain ⟨r4, rfl, rfl, hQ⟩ := hr
    refine x_iadd d_X1_add_32 ?_
    refine x_topi (fun x5 e_x5 => ?_)
    have hQ := hQ x5 e_x5
    refine x_istore (lv2 := [(6, .int x5), (5, .int x3), (4, .int r1), (0, .ref (a + 8)), (1, .int i), (2, .int u), (3, .int x)]) d_X1_add_33 (by decide) rfl ?_
    refine x_aload_n 3 d_X1_add_35 rfl rfl ?_
    refine x_getf 1 gf_X1_15 gS_8 rfl d_X1_add_36 ?_
    refine x_iload 0 d_X1_add_39 rfl ?_
    refine x_iload 1 d_X1_add_41 rfl ?_
    refine x_iload 2 d_X1_add_43 rfl ?_
    refine x_iadd d_X1_add_45 ?_
    refine x_invSN (rest := []) (d' := d - 1) (mc' := 0) (ms' := 0) [.ref (a + 10), .int x5, .int (x3 + r1)] "LagSolver" k_X9_makeRoom lk_X1_29 rfl rfl (Nat.le_of_ble_eq_true rfl) (by omega) (Nat.le_refl _) (Nat.le_refl _) d_X1_add_46 ((spa_X9_makeRoom (d := d - 1) (by omega) gS_10 hQ).mono (fun r w2 hr => ?_))
    obtain ⟨f6, rfl, rfl, hQ⟩ := hr
    obtain ⟨s7, e_s7⟩ : ∃ z : RT, z = rI s 10 f6 := ⟨_, rfl⟩
    have hQ := hQ s7 e_s7
    refine X.world (w2 := put w a 19 (shS a s7)) (by rw [e_s7]; exact sS_10) ?_
    refine x_aload_n 3 d_X1_add_49 rfl rfl ?_
    refine x_getf 2 gf_X1_18 gS_8 rfl d_X1_add_50 ?_
    refine x_iload 0 d_X1_add_53 rfl ?_
    refine x_iload 1 d_X1_add_55 rfl ?_
    refine x_iload 2 d_X1_add_57 rfl ?_
    refine x_iadd d_X1_add_59 ?_
    refine x_invSN (rest := []) (d' := d - 1) (mc' := 0) (ms' := 0) [.ref (a + 11), .int x5, .int (x3 + r1)] "LagSolver" k_X9_makeRoom lk_X1_29 rfl rfl (Nat.le_of_ble_eq_true rfl) (by omega) (Nat.le_refl _) (Nat.le_refl _) d_X1_add_60 ((spa_X9_makeRoom (d := d - 1) (by omega) gS_11 hQ).mono (fun r w2 hr => ?_))
    obtain ⟨f8, rfl, rfl, hQ⟩ := hr
    obtain ⟨s9, e_s9⟩ : ∃ z : RT, z = rI s7 11 f8 := ⟨_, rfl⟩
    have hQ := hQ s9 e_s9
    refine X.world (w2 := put w a 19 (shS a s9)) (by rw [e_s9]; exact sS_11) ?_
    refine x_aload_n 3 d_X1_add_63 rfl rfl ?_
    refine x_getf 1 gf_X1_15 gS_8 rfl d_X1_add_64 ?_
    refine x_iload 0 d_X1_add_67 rfl ?_
    refine x_iload_n 5 d_X1_add_69 rfl rfl ?_
    refine x_invSN (rest := []) (d' := d - 1) (mc' := 0) (ms' := 0) [.ref (a + 10), .int x5, .int u] "LagSolver" k_X9_put lk_X1_33 rfl rfl (Nat.le_of_ble_eq_true rfl) (by omega) (Nat.le_refl _) (Nat.le_refl _) d_X1_add_70 ((spa_X9_put (d := d - 1) (by omega) gS_10 hQ).mono (fun r w2 hr => ?_))
    obtain ⟨f10, rfl, rfl, hQ⟩ := hr
    obtain ⟨s11, e_s11⟩ : ∃ z : RT, z = rI s9 10 f10 := ⟨_, rfl⟩
    have hQ := hQ s11 e_s11
    refine X.world (w2 := put w a 19 (shS a s11)) (by rw [e_s11]; exact sS_10) ?_
    refine x_aload_n 3 d_X1_add_73 rfl rfl ?_
    refine x_getf 2 gf_X1_18 gS_8 rfl d_X1_add_74 ?_
    refine x_iload 0 d_X1_add_77 rfl ?_
    refine x_iload_n 6 d_X1_add_79 rfl rfl ?_
    refine x_invSN (rest := []) (d' := d - 1) (mc' := 0) (ms' := 0) [.ref (a + 11), .int x5, .int x] "LagSolver" k_X9_put lk_X1_33 rfl rfl (Nat.le_of_ble_eq_true rfl) (by omega) (Nat.le_refl _) (Nat.le_refl _) d_X1_add_80 ((spa_X9_put (d := d - 1) (by omega) gS_11 hQ).mono (fun r w2 hr => ?_))
    obtain ⟨f12, rfl, rfl, hQ⟩ := hr
    obtain ⟨s13, e_s13⟩ : ∃ z : RT, z = rI s11 11 f12 := ⟨_, rfl⟩
    have hQ := hQ s13 e_s13
    refine X.world (w2 := put w a 19 (shS a s13)) (by rw [e_s13]; exact sS_11) ?_
    refine x_aload_n 3 d_X1_add_83 rfl rfl ?_
    refine x_getf 0 gf_X1_9 gS_8 rfl d_X1_add_84 ?_
    refine x_iload_n 4 d_X1_add_87 rfl rfl ?_
    refine x_iload 2 d_X1_add_88 rfl ?_
    refine x_iconst (v := (1 : Int32)) d_X1_add_90 (by decide) ?_
    refine x_iadd d_X1_add_91 ?_
    refine x_invSN (rest := []) (d' := d - 1) (mc' := 0) (ms' := 0) [.ref (a + 9), .int i, .int (r1 + (1 : Int32))] "LagSolver" k_X9_put lk_X1_33 rfl rfl (Nat.le_of_ble_eq_true rfl) (by omega) (Nat.le_refl _) (Nat.le_refl _) d_X1_add_92 ((spa_X9_put (d := d - 1) (by omega) gS_9 hQ).mono (fun r w2 hr => ?_))
    obtain ⟨f14, rfl, rfl, hQ⟩ := hr
    obtain ⟨s15, e_s15⟩ : ∃ z : RT, z = rI s13 9 f14 := ⟨_, rfl⟩
    have hQ := hQ s15 e_s15
    refine X.world (w2 := put w a 19 (shS a s15)) (by rw [e_s15]; exact sS_9) ?_
    exact x_vret (retV d_X1_add_95 rfl) ⟨_, rfl, rfl, hQ⟩
  · have hQ := hQ.2 c_14_2
    exact x_vret (retV d_X1_add_17 rfl) ⟨_, rfl, rfl, hQ⟩
def wp_X1_valueAt (s : RT) (i : Int32) (u : Int32) (K : Int32 → Prop) : Prop := wp_X9_pick 3 (s.1 9) i (fun (r1 : Int32) => ((¬ r1 = (0 : Int32) → wp_X1_pointsUpTo s i u (fun (r3 : Int32) => ∀ x4 : Int32, x4 = (i * (6 : Int32)) + r3 → ((¬ r3 = (0 : Int32) → wp_X9_pick 18 (s.1 11) (x4 - (1 : Int32)) (fun (r6 : Int32) => ∀ x7 : Int64, x7 = r6.toInt64 → ((¬ r3 = r1 → wp_X9_pick 18 (s.1 10) (x4 - (1 : Int32)) (fun (r9 : Int32) => ∀ x10 : Int64, x10 = r9.toInt64 → wp_X9_pick 18 (s.1 11) x4 (fun (r11 : Int32) => ∀ x12 : Int64, x12 = (r11.toInt64) - x7 → wp_X9_pick 18 (s.1 10) x4 (fun (r13 : Int32) => wp_X9_quotient (x12 * ((u.toInt64) - x10)) ((r13.toInt64) - x10) (fun (r14 : Int64) => K ((x7 + r14).toInt32)))))) ∧ (r3 = r1 → K (x7.toInt32))))) ∧ (r3 = (0 : Int32) → wp_X9_pick 18 (s.1 11) x4 (fun (r15 : Int32) => K r15))))) ∧ (r1 = (0 : Int32) → K (0 : Int32))))
set_option maxHeartbeats 4000000 in
theorem sp_X1_valueAt {G : GX} {l : Launch} {d : Nat} {w : HW} {a : Nat} {s : RT} {i : Int32} {u : Int32} {K : Int32 → Prop} (hd : 2 ≤ d) (hQ : wp_X1_valueAt s i u K) : Sp G l m_X1_valueAt d 0 0 [.ref (a + 8), .int i, .int u] (put w a 19 (shS a s)) (fun r w2 => ∃ (r1 : Int32), r = some (.int r1) ∧ w2 = put w a 19 (shS a s) ∧ K r1) := by
  refine Sp.ofX k_X1_valueAt.1.1 (Nat.le_of_ble_eq_true rfl) ?_
  refine X.lv (lv2 := [(0, .ref (a + 8)), (1, .int i), (2, .int u)]) rfl ?_
  refine x_aload_n 0 d_X1_valueAt_0 rfl rfl ?_
  refine x_getf 0 gf_X1_9 gS_8 rfl d_X1_valueAt_1 ?_
  refine x_iload_n 1 d_X1_valueAt_4 rfl rfl ?_
  refine x_invSN (rest := []) (d' := d - 1) (mc' := 0) (ms' := 0) [.ref (a + 9), .int i] "LagSolver" k_X9_pick lk_X1_25 rfl rfl (Nat.le_of_ble_eq_true rfl) (by omega) (Nat.le_refl _) (Nat.le_refl _) d_X1_valueAt_5 ((sp_X9_pick (d := d - 1) (by omega) gS_9 hQ).mono (fun r w2 hr => ?_))
  obtain ⟨r1, rfl, rfl, hQ⟩ := hr
  refine x_istore_n (lv2 := [(3, .int r1), (0, .ref (a + 8)), (1, .int i), (2, .int u)]) d_X1_valueAt_8 rfl (by decide) rfl ?_
  refine x_iload_n 0 d_X1_valueAt_9 rfl rfl ?_
  refine x_if_ne (tgt := 15) d_X1_valueAt_10 (by decide) (fun c_10_2 => ?_) (fun c_10_2 => ?_)
  · have hQ := hQ.1 c_10_2
    refine x_aload_n 1 d_X1_valueAt_15 rfl rfl ?_
    refine x_iload_n 2 d_X1_valueAt_16 rfl rfl ?_
    refine x_iload_n 3 d_X1_valueAt_17 rfl rfl ?_
    refine x_invV (rest := []) (d' := d - 1) (mc' := 0) (ms' := 0) [.int i, .int u] k_X1_pointsUpTo lk_X1_21 gS_8 rfl rfl rfl (Nat.le_of_ble_eq_true rfl) (by omega) (Nat.le_refl _) (Nat.le_refl _) d_X1_valueAt_18 ((sp_X1_pointsUpTo (d := d - 1) (by omega) hQ).mono (fun r w2 hr => ?_))
    obtain ⟨r3, rfl, rfl, hQ⟩ := hr
    refine x_istore (lv2 := [(4, .int r3), (3, .int r1), (0, .ref (a + 8)), (1, .int i), (2, .int u)]) d_X1_valueAt_21 (by decide) rfl ?_
    refine x_iload_n 3 d_X1_valueAt_23 rfl rfl ?_
    refine x_bipush (v := (6 : Int32)) d_X1_valueAt_24 (by decide) ?_
    refine x_imul d_X1_valueAt_26 ?_
    refine x_iload 0 d_X1_valueAt_27 rfl ?_
    refine x_iadd d_X1_valueAt_29 ?_
    refine x_topi (fun x4 e_x4 => ?_)
    have hQ := hQ x4 e_x4
    refine x_istore (lv2 := [(5, .int x4), (4, .int r3), (3, .int r1), (0, .ref (a + 8)), (1, .int i), (2, .int u)]) d_X1_valueAt_30 (by decide) rfl ?_
    refine x_iload 1 d_X1_valueAt_32 rfl ?_
    refine x_if_ne (tgt := 47) d_X1_valueAt_34 (by decide) (fun c_34_5 => ?_) (fun c_34_5 => ?_)
    · have hQ := hQ.1 c_34_5
      refine x_aload_n 3 d_X1_valueAt_47 rfl rfl ?_
      refine x_getf 2 gf_X1_18 gS_8 rfl d_X1_valueAt_48 ?_
      refine x_iload 0 d_X1_valueAt_51 rfl ?_
      refine x_iconst (v := (1 : Int32)) d_X1_valueAt_53 (by decide) ?_
      refine x_isub d_X1_valueAt_54 ?_
      refine x_invSN (rest := []) (d' := d - 1) (mc' := 0) (ms' := 0) [.ref (a + 11), .int (x4 - (1 : Int32))] "LagSolver" k_X9_pick lk_X1_25 rfl rfl (Nat.le_of_ble_eq_true rfl) (by omega) (Nat.le_refl _) (Nat.le_refl _) d_X1_valueAt_55 ((sp_X9_pick (d := d - 1) (by omega) gS_11 hQ).mono (fun r w2 hr => ?_))
      obtain ⟨r6, rfl, rfl, hQ⟩ := hr
      refine x_i2l d_X1_valueAt_58 rfl ?_
      refine x_topl (fun x7 e_x7 => ?_)
      have hQ := hQ x7 e_x7
      refine x_lstore (lv2 := [(6, .long x7), (5, .int x4), (4, .int r3), (3, .int r1), (0, .ref (a + 8)), (1, .int i), (2, .int u)]) d_X1_valueAt_59 (by decide) rfl ?_
      refine x_iload 2 d_X1_valueAt_61 rfl ?_
      refine x_iload_n 3 d_X1_valueAt_63 rfl rfl ?_
      refine x_icmp_ne (tgt := 71) d_X1_valueAt_64 (by decide) (fun c_64_8 => ?_) (fun c_64_8 => ?_)
      · have hQ := hQ.1 c_64_8
        refine x_aload_n 4 d_X1_valueAt_71 rfl rfl ?_
        refine x_getf 1 gf_X1_15 gS_8 rfl d_X1_valueAt_72 ?_
        refine x_iload 1 d_X1_valueAt_75 rfl ?_
        refine x_iconst (v := (1 : Int32)) d_X1_valueAt_77 (by decide) ?_
        refine x_isub d_X1_valueAt_78 ?_
        refine x_invSN (rest := []) (d' := d - 1) (mc' := 0) (ms' := 0) [.ref (a + 10), .int (x4 - (1 : Int32))] "LagSolver" k_X9_pick lk_X1_25 rfl rfl (Nat.le_of_ble_eq_true rfl) (by omega) (Nat.le_refl _) (Nat.le_refl _) d_X1_valueAt_79 ((sp_X9_pick (d := d - 1) (by omega) gS_10 hQ).mono (fun r w2 hr => ?_))
        obtain ⟨r9, rfl, rfl, hQ⟩ := hr
        refine x_i2l d_X1_valueAt_82 rfl ?_
        refine x_topl (fun x10 e_x10 => ?_)
        have hQ := hQ x10 e_x10
        refine x_lstore (lv2 := [(8, .long x10), (6, .long x7), (5, .int x4), (4, .int r3), (3, .int r1), (0, .ref (a + 8)), (1, .int i), (2, .int u)]) d_X1_valueAt_83 (by decide) rfl ?_
        refine x_aload_n 5 d_X1_valueAt_85 rfl rfl ?_
        refine x_getf 2 gf_X1_18 gS_8 rfl d_X1_valueAt_86 ?_
        refine x_iload 2 d_X1_valueAt_89 rfl ?_
        refine x_invSN (rest := []) (d' := d - 1) (mc' := 0) (ms' := 0) [.ref (a + 11), .int x4] "LagSolver" k_X9_pick lk_X1_25 rfl rfl (Nat.le_of_ble_eq_true rfl) (by omega) (Nat.le_refl _) (Nat.le_refl _) d_X1_valueAt_91 ((sp_X9_pick (d := d - 1) (by omega) gS_11 hQ).mono (fun r w2 hr => ?_))
        obtain ⟨r11, rfl, rfl, hQ⟩ := hr
        refine x_i2l d_X1_valueAt_94 rfl ?_
        refine x_lload 1 d_X1_valueAt_95 rfl ?_
        refine x_lsub d_X1_valueAt_97 ?_
        refine x_topl (fun x12 e_x12 => ?_)
        have hQ := hQ x12 e_x12
        refine x_lstore (lv2 := [(10, .long x12), (8, .long x10), (6, .long x7), (5, .int x4), (4, .int r3), (3, .int r1), (0, .ref (a + 8)), (1, .int i), (2, .int u)]) d_X1_valueAt_98 (by decide) rfl ?_
        refine x_lload 2 d_X1_valueAt_100 rfl ?_
        refine x_lload 0 d_X1_valueAt_102 rfl ?_
        refine x_iload_n 8 d_X1_valueAt_104 rfl rfl ?_
        refine x_i2l d_X1_valueAt_105 rfl ?_
        refine x_lload 1 d_X1_valueAt_106 rfl ?_
        refine x_lsub d_X1_valueAt_108 ?_
        refine x_lmul d_X1_valueAt_109 ?_
        refine x_aload_n 6 d_X1_valueAt_110 rfl rfl ?_
        refine x_getf 1 gf_X1_15 gS_8 rfl d_X1_valueAt_111 ?_
        refine x_iload 3 d_X1_valueAt_114 rfl ?_
        refine x_invSN (rest := [.long (x12 * ((u.toInt64) - x10)), .long x7]) (d' := d - 1) (mc' := 0) (ms' := 0) [.ref (a + 10), .int x4] "LagSolver" k_X9_pick lk_X1_25 rfl rfl (Nat.le_of_ble_eq_true rfl) (by omega) (Nat.le_refl _) (Nat.le_refl _) d_X1_valueAt_116 ((sp_X9_pick (d := d - 1) (by omega) gS_10 hQ).mono (fun r w2 hr => ?_))
        obtain ⟨r13, rfl, rfl, hQ⟩ := hr
        refine x_i2l d_X1_valueAt_119 rfl ?_
        refine x_lload 1 d_X1_valueAt_120 rfl ?_
        refine x_lsub d_X1_valueAt_122 ?_
        refine x_invSN (rest := [.long x7]) (d' := d - 1) (mc' := 0) (ms' := 0) [.long (x12 * ((u.toInt64) - x10)), .long ((r13.toInt64) - x10)] "LagSolver" k_X9_quotient lk_X1_36 rfl rfl (Nat.le_of_ble_eq_true rfl) (by omega) (Nat.le_refl _) (Nat.le_refl _) d_X1_valueAt_123 ((sp_X9_quotient (d := d - 1) (by omega) hQ).mono (fun r w2 hr => ?_))
        obtain ⟨r14, rfl, rfl, hQ⟩ := hr
        refine x_ladd d_X1_valueAt_126 ?_
        refine x_l2i d_X1_valueAt_127 rfl ?_
        exact x_iret (retI d_X1_valueAt_128 rfl) ⟨_, rfl, rfl, hQ⟩
      · have hQ := hQ.2 c_64_8
        refine x_lload 0 d_X1_valueAt_67 rfl ?_
        refine x_l2i d_X1_valueAt_69 rfl ?_
        exact x_iret (retI d_X1_valueAt_70 rfl) ⟨_, rfl, rfl, hQ⟩
    · have hQ := hQ.2 c_34_5
      refine x_aload_n 3 d_X1_valueAt_37 rfl rfl ?_
      refine x_getf 2 gf_X1_18 gS_8 rfl d_X1_valueAt_38 ?_
      refine x_iload 0 d_X1_valueAt_41 rfl ?_
      refine x_invSN (rest := []) (d' := d - 1) (mc' := 0) (ms' := 0) [.ref (a + 11), .int x4] "LagSolver" k_X9_pick lk_X1_25 rfl rfl (Nat.le_of_ble_eq_true rfl) (by omega) (Nat.le_refl _) (Nat.le_refl _) d_X1_valueAt_43 ((sp_X9_pick (d := d - 1) (by omega) gS_11 hQ).mono (fun r w2 hr => ?_))
      obtain ⟨r15, rfl, rfl, hQ⟩ := hr
      exact x_iret (retI d_X1_valueAt_46 rfl) ⟨_, rfl, rfl, hQ⟩
  · have hQ := hQ.2 c_10_2
    refine x_iconst (v := (0 : Int32)) d_X1_valueAt_13 (by decide) ?_
    exact x_iret (retI d_X1_valueAt_14 rfl) ⟨_, rfl, rfl, hQ⟩
def wp_X1_slopeAt (s : RT) (i : Int32) (u : Int32) (K : Int32 → Prop) : Prop := wp_X1_pointsUpTo s i u (fun (r1 : Int32) => ((r1 = (0 : Int32) → K (0 : Int32)) ∧ (¬ r1 = (0 : Int32) → wp_X9_pick 3 (s.1 9) i (fun (r3 : Int32) => ((¬ r1 = r3 → ∀ x5 : Int32, x5 = (i * (6 : Int32)) + r1 → wp_X9_pick 18 (s.1 11) x5 (fun (r6 : Int32) => wp_X9_pick 18 (s.1 11) (x5 - (1 : Int32)) (fun (r7 : Int32) => ∀ x8 : Int64, x8 = (r6.toInt64) - (r7.toInt64) → wp_X9_pick 18 (s.1 10) x5 (fun (r9 : Int32) => wp_X9_pick 18 (s.1 10) (x5 - (1 : Int32)) (fun (r10 : Int32) => wp_X9_quotient (x8 * (1000 : Int64)) ((r9 - r10).toInt64) (fun (r11 : Int64) => K (r11.toInt32))))))) ∧ (r1 = r3 → K (0 : Int32)))))))
set_option maxHeartbeats 4000000 in
theorem sp_X1_slopeAt {G : GX} {l : Launch} {d : Nat} {w : HW} {a : Nat} {s : RT} {i : Int32} {u : Int32} {K : Int32 → Prop} (hd : 2 ≤ d) (hQ : wp_X1_slopeAt s i u K) : Sp G l m_X1_slopeAt d 0 0 [.ref (a + 8), .int i, .int u] (put w a 19 (shS a s)) (fun r w2 => ∃ (r1 : Int32), r = some (.int r1) ∧ w2 = put w a 19 (shS a s) ∧ K r1) := by
  refine Sp.ofX k_X1_slopeAt.1.1 (Nat.le_of_ble_eq_true rfl) ?_
  refine X.lv (lv2 := [(0, .ref (a + 8)), (1, .int i), (2, .int u)]) rfl ?_
  refine x_aload_n 0 d_X1_slopeAt_0 rfl rfl ?_
  refine x_iload_n 1 d_X1_slopeAt_1 rfl rfl ?_
  refine x_iload_n 2 d_X1_slopeAt_2 rfl rfl ?_
  refine x_invV (rest := []) (d' := d - 1) (mc' := 0) (ms' := 0) [.int i, .int u] k_X1_pointsUpTo lk_X1_21 gS_8 rfl rfl rfl (Nat.le_of_ble_eq_true rfl) (by omega) (Nat.le_refl _) (Nat.le_refl _) d_X1_slopeAt_3 ((sp_X1_pointsUpTo (d := d - 1) (by omega) hQ).mono (fun r w2 hr => ?_))
  obtain ⟨r1, rfl, rfl, hQ⟩ := hr
  refine x_istore_n (lv2 := [(3, .int r1), (0, .ref (a + 8)), (1, .int i), (2, .int u)]) d_X1_slopeAt_6 rfl (by decide) rfl ?_
  refine x_iload_n 0 d_X1_slopeAt_7 rfl rfl ?_
  refine x_if_eq (tgt := 23) d_X1_slopeAt_8 (by decide) (fun c_8_2 => ?_) (fun c_8_2 => ?_)
  · have hQ := hQ.1 c_8_2
    refine x_iconst (v := (0 : Int32)) d_X1_slopeAt_23 (by decide) ?_
    exact x_iret (retI d_X1_slopeAt_24 rfl) ⟨_, rfl, rfl, hQ⟩
  · have hQ := hQ.2 c_8_2
    refine x_iload_n 0 d_X1_slopeAt_11 rfl rfl ?_
    refine x_aload_n 1 d_X1_slopeAt_12 rfl rfl ?_
    refine x_getf 0 gf_X1_9 gS_8 rfl d_X1_slopeAt_13 ?_
    refine x_iload_n 2 d_X1_slopeAt_16 rfl rfl ?_
    refine x_invSN (rest := [.int r1]) (d' := d - 1) (mc' := 0) (ms' := 0) [.ref (a + 9), .int i] "LagSolver" k_X9_pick lk_X1_25 rfl rfl (Nat.le_of_ble_eq_true rfl) (by omega) (Nat.le_refl _) (Nat.le_refl _) d_X1_slopeAt_17 ((sp_X9_pick (d := d - 1) (by omega) gS_9 hQ).mono (fun r w2 hr => ?_))
    obtain ⟨r3, rfl, rfl, hQ⟩ := hr
    refine x_icmp_ne (tgt := 25) d_X1_slopeAt_20 (by decide) (fun c_20_4 => ?_) (fun c_20_4 => ?_)
    · have hQ := hQ.1 c_20_4
      refine x_iload_n 2 d_X1_slopeAt_25 rfl rfl ?_
      refine x_bipush (v := (6 : Int32)) d_X1_slopeAt_26 (by decide) ?_
      refine x_imul d_X1_slopeAt_28 ?_
      refine x_iload_n 0 d_X1_slopeAt_29 rfl rfl ?_
      refine x_iadd d_X1_slopeAt_30 ?_
      refine x_topi (fun x5 e_x5 => ?_)
      have hQ := hQ x5 e_x5
      refine x_istore (lv2 := [(4, .int x5), (3, .int r1), (0, .ref (a + 8)), (1, .int i), (2, .int u)]) d_X1_slopeAt_31 (by decide) rfl ?_
      refine x_aload_n 2 d_X1_slopeAt_33 rfl rfl ?_
      refine x_getf 2 gf_X1_18 gS_8 rfl d_X1_slopeAt_34 ?_
      refine x_iload 0 d_X1_slopeAt_37 rfl ?_
      refine x_invSN (rest := []) (d' := d - 1) (mc' := 0) (ms' := 0) [.ref (a + 11), .int x5] "LagSolver" k_X9_pick lk_X1_25 rfl rfl (Nat.le_of_ble_eq_true rfl) (by omega) (Nat.le_refl _) (Nat.le_refl _) d_X1_slopeAt_39 ((sp_X9_pick (d := d - 1) (by omega) gS_11 hQ).mono (fun r w2 hr => ?_))
      obtain ⟨r6, rfl, rfl, hQ⟩ := hr
      refine x_i2l d_X1_slopeAt_42 rfl ?_
      refine x_aload_n 2 d_X1_slopeAt_43 rfl rfl ?_
      refine x_getf 2 gf_X1_18 gS_8 rfl d_X1_slopeAt_44 ?_
      refine x_iload 0 d_X1_slopeAt_47 rfl ?_
      refine x_iconst (v := (1 : Int32)) d_X1_slopeAt_49 (by decide) ?_
      refine x_isub d_X1_slopeAt_50 ?_
      refine x_invSN (rest := [.long (r6.toInt64)]) (d' := d - 1) (mc' := 0) (ms' := 0) [.ref (a + 11), .int (x5 - (1 : Int32))] "LagSolver" k_X9_pick lk_X1_25 rfl rfl (Nat.le_of_ble_eq_true rfl) (by omega) (Nat.le_refl _) (Nat.le_refl _) d_X1_slopeAt_51 ((sp_X9_pick (d := d - 1) (by omega) gS_11 hQ).mono (fun r w2 hr => ?_))
      obtain ⟨r7, rfl, rfl, hQ⟩ := hr
      refine x_i2l d_X1_slopeAt_54 rfl ?_
      refine x_lsub d_X1_slopeAt_55 ?_
      refine x_topl (fun x8 e_x8 => ?_)
      have hQ := hQ x8 e_x8
      refine x_lstore (lv2 := [(5, .long x8), (4, .int x5), (3, .int r1), (0, .ref (a + 8)), (1, .int i), (2, .int u)]) d_X1_slopeAt_56 (by decide) rfl ?_
      refine x_lload 0 d_X1_slopeAt_58 rfl ?_
      refine x_ldc2 (v := (1000 : Int64)) kc_X1_40 d_X1_slopeAt_60 ?_
      refine x_lmul d_X1_slopeAt_63 ?_
      refine x_aload_n 3 d_X1_slopeAt_64 rfl rfl ?_
      refine x_getf 1 gf_X1_15 gS_8 rfl d_X1_slopeAt_65 ?_
      refine x_iload 1 d_X1_slopeAt_68 rfl ?_
      refine x_invSN (rest := [.long (x8 * (1000 : Int64))]) (d' := d - 1) (mc' := 0) (ms' := 0) [.ref (a + 10), .int x5] "LagSolver" k_X9_pick lk_X1_25 rfl rfl (Nat.le_of_ble_eq_true rfl) (by omega) (Nat.le_refl _) (Nat.le_refl _) d_X1_slopeAt_70 ((sp_X9_pick (d := d - 1) (by omega) gS_10 hQ).mono (fun r w2 hr => ?_))
      obtain ⟨r9, rfl, rfl, hQ⟩ := hr
      refine x_aload_n 3 d_X1_slopeAt_73 rfl rfl ?_
      refine x_getf 1 gf_X1_15 gS_8 rfl d_X1_slopeAt_74 ?_
      refine x_iload 1 d_X1_slopeAt_77 rfl ?_
      refine x_iconst (v := (1 : Int32)) d_X1_slopeAt_79 (by decide) ?_
      refine x_isub d_X1_slopeAt_80 ?_
      refine x_invSN (rest := [.int r9, .long (x8 * (1000 : Int64))]) (d' := d - 1) (mc' := 0) (ms' := 0) [.ref (a + 10), .int (x5 - (1 : Int32))] "LagSolver" k_X9_pick lk_X1_25 rfl rfl (Nat.le_of_ble_eq_true rfl) (by omega) (Nat.le_refl _) (Nat.le_refl _) d_X1_slopeAt_81 ((sp_X9_pick (d := d - 1) (by omega) gS_10 hQ).mono (fun r w2 hr => ?_))
      obtain ⟨r10, rfl, rfl, hQ⟩ := hr
      refine x_isub d_X1_slopeAt_84 ?_
      refine x_i2l d_X1_slopeAt_85 rfl ?_
      refine x_invSN (rest := []) (d' := d - 1) (mc' := 0) (ms' := 0) [.long (x8 * (1000 : Int64)), .long ((r9 - r10).toInt64)] "LagSolver" k_X9_quotient lk_X1_36 rfl rfl (Nat.le_of_ble_eq_true rfl) (by omega) (Nat.le_refl _) (Nat.le_refl _) d_X1_slopeAt_86 ((sp_X9_quotient (d := d - 1) (by omega) hQ).mono (fun r w2 hr => ?_))
      obtain ⟨r11, rfl, rfl, hQ⟩ := hr
      refine x_l2i d_X1_slopeAt_89 rfl ?_
      exact x_iret (retI d_X1_slopeAt_90 rfl) ⟨_, rfl, rfl, hQ⟩
    · have hQ := hQ.2 c_20_4
      refine x_iconst (v := (0 : Int32)) d_X1_slopeAt_23 (by decide) ?_
      exact x_iret (retI d_X1_slopeAt_24 rfl) ⟨_, rfl, rfl, hQ⟩
def wp_X4_beginOf (s : RT) (i : Int32) (K : Int32 → Prop) : Prop := wp_X9_pick 7688 (s.1 18) (i * (8 : Int32)) (fun (r1 : Int32) => K r1)
set_option maxHeartbeats 4000000 in
theorem sp_X4_beginOf {G : GX} {l : Launch} {d : Nat} {w : HW} {a : Nat} {s : RT} {i : Int32} {K : Int32 → Prop} (hd : 1 ≤ d) (hQ : wp_X4_beginOf s i K) : Sp G l m_X4_beginOf d 0 0 [.ref (a + 17), .int i] (put w a 19 (shS a s)) (fun r w2 => ∃ (r1 : Int32), r = some (.int r1) ∧ w2 = put w a 19 (shS a s) ∧ K r1) := by
  refine Sp.ofX k_X4_beginOf.1.1 (Nat.le_of_ble_eq_true rfl) ?_
  refine X.lv (lv2 := [(0, .ref (a + 17)), (1, .int i)]) rfl ?_
  refine x_aload_n 0 d_X4_beginOf_0 rfl rfl ?_
  refine x_getf 0 gf_X4_11 gS_17 rfl d_X4_beginOf_1 ?_
  refine x_iload_n 1 d_X4_beginOf_4 rfl rfl ?_
  refine x_bipush (v := (8 : Int32)) d_X4_beginOf_5 (by decide) ?_
  refine x_imul d_X4_beginOf_7 ?_
  refine x_invSN (rest := []) (d' := d - 1) (mc' := 0) (ms' := 0) [.ref (a + 18), .int (i * (8 : Int32))] "LagSolver" k_X9_pick lk_X4_29 rfl rfl (Nat.le_of_ble_eq_true rfl) (by omega) (Nat.le_refl _) (Nat.le_refl _) d_X4_beginOf_8 ((sp_X9_pick (d := d - 1) (by omega) gS_18 hQ).mono (fun r w2 hr => ?_))
  obtain ⟨r1, rfl, rfl, hQ⟩ := hr
  exact x_iret (retI d_X4_beginOf_11 rfl) ⟨_, rfl, rfl, hQ⟩
def wp_X4_endTime (s : RT) (K : Int32 → Prop) : Prop := wp_X4_beginOf s (s.2.2 1) (fun (r1 : Int32) => K r1)
set_option maxHeartbeats 4000000 in
theorem sp_X4_endTime {G : GX} {l : Launch} {d : Nat} {w : HW} {a : Nat} {s : RT} {K : Int32 → Prop} (hd : 2 ≤ d) (hQ : wp_X4_endTime s K) : Sp G l m_X4_endTime d 0 0 [.ref (a + 17)] (put w a 19 (shS a s)) (fun r w2 => ∃ (r1 : Int32), r = some (.int r1) ∧ w2 = put w a 19 (shS a s) ∧ K r1) := by
  refine Sp.ofX k_X4_endTime.1.1 (Nat.le_of_ble_eq_true rfl) ?_
  refine X.lv (lv2 := [(0, .ref (a + 17))]) rfl ?_
  refine x_aload_n 0 d_X4_endTime_0 rfl rfl ?_
  refine x_aload_n 0 d_X4_endTime_1 rfl rfl ?_
  refine x_getf 1 gf_X4_15 gS_17 rfl d_X4_endTime_2 ?_
  refine x_invV (rest := []) (d' := d - 1) (mc' := 0) (ms' := 0) [.int (s.2.2 1)] k_X4_beginOf lk_X4_33 gS_17 rfl rfl rfl (Nat.le_of_ble_eq_true rfl) (by omega) (Nat.le_refl _) (Nat.le_refl _) d_X4_endTime_5 ((sp_X4_beginOf (d := d - 1) (by omega) hQ).mono (fun r w2 hr => ?_))
  obtain ⟨r1, rfl, rfl, hQ⟩ := hr
  exact x_iret (retI d_X4_endTime_8 rfl) ⟨_, rfl, rfl, hQ⟩
def wp_X4_endValue (s : RT) (i : Int32) (K : Int32 → Prop) : Prop := wp_X9_pick 7688 (s.1 18) ((((s.2.2 1) * (8 : Int32)) + (1 : Int32)) + i) (fun (r1 : Int32) => K r1)
set_option maxHeartbeats 4000000 in
theorem sp_X4_endValue {G : GX} {l : Launch} {d : Nat} {w : HW} {a : Nat} {s : RT} {i : Int32} {K : Int32 → Prop} (hd : 1 ≤ d) (hQ : wp_X4_endValue s i K) : Sp G l m_X4_endValue d 0 0 [.ref (a + 17), .int i] (put w a 19 (shS a s)) (fun r w2 => ∃ (r1 : Int32), r = some (.int r1) ∧ w2 = put w a 19 (shS a s) ∧ K r1) := by
  refine Sp.ofX k_X4_endValue.1.1 (Nat.le_of_ble_eq_true rfl) ?_
  refine X.lv (lv2 := [(0, .ref (a + 17)), (1, .int i)]) rfl ?_
  refine x_aload_n 0 d_X4_endValue_0 rfl rfl ?_
  refine x_getf 0 gf_X4_11 gS_17 rfl d_X4_endValue_1 ?_
  refine x_aload_n 0 d_X4_endValue_4 rfl rfl ?_
  refine x_getf 1 gf_X4_15 gS_17 rfl d_X4_endValue_5 ?_
  refine x_bipush (v := (8 : Int32)) d_X4_endValue_8 (by decide) ?_
  refine x_imul d_X4_endValue_10 ?_
  refine x_iconst (v := (1 : Int32)) d_X4_endValue_11 (by decide) ?_
  refine x_iadd d_X4_endValue_12 ?_
  refine x_iload_n 1 d_X4_endValue_13 rfl rfl ?_
  refine x_iadd d_X4_endValue_14 ?_
  refine x_invSN (rest := []) (d' := d - 1) (mc' := 0) (ms' := 0) [.ref (a + 18), .int ((((s.2.2 1) * (8 : Int32)) + (1 : Int32)) + i)] "LagSolver" k_X9_pick lk_X4_29 rfl rfl (Nat.le_of_ble_eq_true rfl) (by omega) (Nat.le_refl _) (Nat.le_refl _) d_X4_endValue_15 ((sp_X9_pick (d := d - 1) (by omega) gS_18 hQ).mono (fun r w2 hr => ?_))
  obtain ⟨r1, rfl, rfl, hQ⟩ := hr
  exact x_iret (retI d_X4_endValue_18 rfl) ⟨_, rfl, rfl, hQ⟩
def wp_X4_endOf (s : RT) (i : Int32) (K : Int32 → Prop) : Prop := wp_X9_pick 7688 (s.1 18) ((i + (1 : Int32)) * (8 : Int32)) (fun (r1 : Int32) => K r1)
set_option maxHeartbeats 4000000 in
theorem sp_X4_endOf {G : GX} {l : Launch} {d : Nat} {w : HW} {a : Nat} {s : RT} {i : Int32} {K : Int32 → Prop} (hd : 1 ≤ d) (hQ : wp_X4_endOf s i K) : Sp G l m_X4_endOf d 0 0 [.ref (a + 17), .int i] (put w a 19 (shS a s)) (fun r w2 => ∃ (r1 : Int32), r = some (.int r1) ∧ w2 = put w a 19 (shS a s) ∧ K r1) := by
  refine Sp.ofX k_X4_endOf.1.1 (Nat.le_of_ble_eq_true rfl) ?_
  refine X.lv (lv2 := [(0, .ref (a + 17)), (1, .int i)]) rfl ?_
  refine x_aload_n 0 d_X4_endOf_0 rfl rfl ?_
  refine x_getf 0 gf_X4_11 gS_17 rfl d_X4_endOf_1 ?_
  refine x_iload_n 1 d_X4_endOf_4 rfl rfl ?_
  refine x_iconst (v := (1 : Int32)) d_X4_endOf_5 (by decide) ?_
  refine x_iadd d_X4_endOf_6 ?_
  refine x_bipush (v := (8 : Int32)) d_X4_endOf_7 (by decide) ?_
  refine x_imul d_X4_endOf_9 ?_
  refine x_invSN (rest := []) (d' := d - 1) (mc' := 0) (ms' := 0) [.ref (a + 18), .int ((i + (1 : Int32)) * (8 : Int32))] "LagSolver" k_X9_pick lk_X4_29 rfl rfl (Nat.le_of_ble_eq_true rfl) (by omega) (Nat.le_refl _) (Nat.le_refl _) d_X4_endOf_10 ((sp_X9_pick (d := d - 1) (by omega) gS_18 hQ).mono (fun r w2 hr => ?_))
  obtain ⟨r1, rfl, rfl, hQ⟩ := hr
  exact x_iret (retI d_X4_endOf_13 rfl) ⟨_, rfl, rfl, hQ⟩
def wp_X4_firstSlope (s : RT) (i : Int32) (j : Int32) (K : Int32 → Prop) : Prop := wp_X9_pick 7688 (s.1 18) (((i * (8 : Int32)) + (4 : Int32)) + j) (fun (r1 : Int32) => K r1)
set_option maxHeartbeats 4000000 in
theorem sp_X4_firstSlope {G : GX} {l : Launch} {d : Nat} {w : HW} {a : Nat} {s : RT} {i : Int32} {j : Int32} {K : Int32 → Prop} (hd : 1 ≤ d) (hQ : wp_X4_firstSlope s i j K) : Sp G l m_X4_firstSlope d 0 0 [.ref (a + 17), .int i, .int j] (put w a 19 (shS a s)) (fun r w2 => ∃ (r1 : Int32), r = some (.int r1) ∧ w2 = put w a 19 (shS a s) ∧ K r1) := by
  refine Sp.ofX k_X4_firstSlope.1.1 (Nat.le_of_ble_eq_true rfl) ?_
  refine X.lv (lv2 := [(0, .ref (a + 17)), (1, .int i), (2, .int j)]) rfl ?_
  refine x_aload_n 0 d_X4_firstSlope_0 rfl rfl ?_
  refine x_getf 0 gf_X4_11 gS_17 rfl d_X4_firstSlope_1 ?_
  refine x_iload_n 1 d_X4_firstSlope_4 rfl rfl ?_
  refine x_bipush (v := (8 : Int32)) d_X4_firstSlope_5 (by decide) ?_
  refine x_imul d_X4_firstSlope_7 ?_
  refine x_iconst (v := (4 : Int32)) d_X4_firstSlope_8 (by decide) ?_
  refine x_iadd d_X4_firstSlope_9 ?_
  refine x_iload_n 2 d_X4_firstSlope_10 rfl rfl ?_
  refine x_iadd d_X4_firstSlope_11 ?_
  refine x_invSN (rest := []) (d' := d - 1) (mc' := 0) (ms' := 0) [.ref (a + 18), .int (((i * (8 : Int32)) + (4 : Int32)) + j)] "LagSolver" k_X9_pick lk_X4_29 rfl rfl (Nat.le_of_ble_eq_true rfl) (by omega) (Nat.le_refl _) (Nat.le_refl _) d_X4_firstSlope_12 ((sp_X9_pick (d := d - 1) (by omega) gS_18 hQ).mono (fun r w2 hr => ?_))
  obtain ⟨r1, rfl, rfl, hQ⟩ := hr
  exact x_iret (retI d_X4_firstSlope_15 rfl) ⟨_, rfl, rfl, hQ⟩
def wp_X4_roundsOf (s : RT) (i : Int32) (K : Int32 → Prop) : Prop := wp_X9_pick 7688 (s.1 18) ((i * (8 : Int32)) + (7 : Int32)) (fun (r1 : Int32) => K r1)
set_option maxHeartbeats 4000000 in
theorem sp_X4_roundsOf {G : GX} {l : Launch} {d : Nat} {w : HW} {a : Nat} {s : RT} {i : Int32} {K : Int32 → Prop} (hd : 1 ≤ d) (hQ : wp_X4_roundsOf s i K) : Sp G l m_X4_roundsOf d 0 0 [.ref (a + 17), .int i] (put w a 19 (shS a s)) (fun r w2 => ∃ (r1 : Int32), r = some (.int r1) ∧ w2 = put w a 19 (shS a s) ∧ K r1) := by
  refine Sp.ofX k_X4_roundsOf.1.1 (Nat.le_of_ble_eq_true rfl) ?_
  refine X.lv (lv2 := [(0, .ref (a + 17)), (1, .int i)]) rfl ?_
  refine x_aload_n 0 d_X4_roundsOf_0 rfl rfl ?_
  refine x_getf 0 gf_X4_11 gS_17 rfl d_X4_roundsOf_1 ?_
  refine x_iload_n 1 d_X4_roundsOf_4 rfl rfl ?_
  refine x_bipush (v := (8 : Int32)) d_X4_roundsOf_5 (by decide) ?_
  refine x_imul d_X4_roundsOf_7 ?_
  refine x_bipush (v := (7 : Int32)) d_X4_roundsOf_8 (by decide) ?_
  refine x_iadd d_X4_roundsOf_10 ?_
  refine x_invSN (rest := []) (d' := d - 1) (mc' := 0) (ms' := 0) [.ref (a + 18), .int ((i * (8 : Int32)) + (7 : Int32))] "LagSolver" k_X9_pick lk_X4_29 rfl rfl (Nat.le_of_ble_eq_true rfl) (by omega) (Nat.le_refl _) (Nat.le_refl _) d_X4_roundsOf_11 ((sp_X9_pick (d := d - 1) (by omega) gS_18 hQ).mono (fun r w2 hr => ?_))
  obtain ⟨r1, rfl, rfl, hQ⟩ := hr
  exact x_iret (retI d_X4_roundsOf_14 rfl) ⟨_, rfl, rfl, hQ⟩
def lp_X4_stepTo_12 (s : RT) (u : Int32) (K : Int32 → Prop) : Nat → Int32 → Int32 → Int32 → Prop
  | 0, _, _, _ => False
  | n + 1, x_2, x_3, x_4 => (((960 : Int32) ≤ x_4 → K x_2) ∧ (¬ (960 : Int32) ≤ x_4 → ((x_3 ≤ x_2 → K x_2) ∧ (¬ x_3 ≤ x_2 → ∀ x4 : Int32, x4 = (x_2 + x_3) / (2 : Int32) → wp_X9_pick 7688 (s.1 18) ((x4 + (1 : Int32)) * (8 : Int32)) (fun (r5 : Int32) => ((r5 < u → ∀ x7 : Int32, x7 = x4 + (1 : Int32) → ∀ x8 : Int32, x8 = x_4 + (1 : Int32) → lp_X4_stepTo_12 s u K n x7 x_3 x8) ∧ (¬ r5 < u → ∀ x9 : Int32, x9 = x_4 + (1 : Int32) → lp_X4_stepTo_12 s u K n x_2 x4 x9)))))))
set_option maxHeartbeats 4000000 in
theorem jt_X4_stepTo_12 {G : GX} {l : Launch} {d : Nat} {w : HW} {a : Nat} {s : RT} {u : Int32} {K : Int32 → Prop} (hd : 1 ≤ d) : ∀ (n : Nat) (x_2 : Int32) (x_3 : Int32) (x_4 : Int32), lp_X4_stepTo_12 s u K n x_2 x_3 x_4 → X G l m_X4_stepTo d 0 0 0 0 12 [(0, .ref (a + 17)), (1, .int u), (2, .int x_2), (3, .int x_3), (4, .int x_4)] [] (put w a 19 (shS a s)) (fun r w2 => ∃ (r1 : Int32), r = some (.int r1) ∧ w2 = put w a 19 (shS a s) ∧ K r1) := by
  intro n
  induction n with
  | zero =>
    intro x_2 x_3 x_4 hQ
    exact hQ.elim
  | succ n ih =>
    intro x_2 x_3 x_4 hQ
    refine x_iload 4 d_X4_stepTo_12 rfl ?_
    refine x_sipush (v := (960 : Int32)) d_X4_stepTo_14 (by decide) ?_
    refine x_icmp_ge (tgt := 67) d_X4_stepTo_17 (by decide) (fun c_17_2 => ?_) (fun c_17_2 => ?_)
    · have hQ := hQ.1 c_17_2
      refine x_iload_n 2 d_X4_stepTo_67 rfl rfl ?_
      exact x_iret (retI d_X4_stepTo_68 rfl) ⟨_, rfl, rfl, hQ⟩
    · have hQ := hQ.2 c_17_2
      refine x_iload_n 2 d_X4_stepTo_20 rfl rfl ?_
      refine x_iload_n 3 d_X4_stepTo_21 rfl rfl ?_
      refine x_icmp_ge (tgt := 67) d_X4_stepTo_22 (by decide) (fun c_22_3 => ?_) (fun c_22_3 => ?_)
      · have hQ := hQ.1 c_22_3
        refine x_iload_n 2 d_X4_stepTo_67 rfl rfl ?_
        exact x_iret (retI d_X4_stepTo_68 rfl) ⟨_, rfl, rfl, hQ⟩
      · have hQ := hQ.2 c_22_3
        refine x_iload_n 2 d_X4_stepTo_25 rfl rfl ?_
        refine x_iload_n 3 d_X4_stepTo_26 rfl rfl ?_
        refine x_iadd d_X4_stepTo_27 ?_
        refine x_iconst (v := (2 : Int32)) d_X4_stepTo_28 (by decide) ?_
        refine x_idiv d_X4_stepTo_29 (by decide) ?_
        refine x_topi (fun x4 e_x4 => ?_)
        have hQ := hQ x4 e_x4
        refine x_istore (lv2 := [(5, .int x4), (0, .ref (a + 17)), (1, .int u), (2, .int x_2), (3, .int x_3), (4, .int x_4)]) d_X4_stepTo_30 (by decide) rfl ?_
        refine x_aload_n 1 d_X4_stepTo_32 rfl rfl ?_
        refine x_getf 0 gf_X4_11 gS_17 rfl d_X4_stepTo_33 ?_
        refine x_iload 0 d_X4_stepTo_36 rfl ?_
        refine x_iconst (v := (1 : Int32)) d_X4_stepTo_38 (by decide) ?_
        refine x_iadd d_X4_stepTo_39 ?_
        refine x_bipush (v := (8 : Int32)) d_X4_stepTo_40 (by decide) ?_
        refine x_imul d_X4_stepTo_42 ?_
        refine x_invSN (rest := []) (d' := d - 1) (mc' := 0) (ms' := 0) [.ref (a + 18), .int ((x4 + (1 : Int32)) * (8 : Int32))] "LagSolver" k_X9_pick lk_X4_29 rfl rfl (Nat.le_of_ble_eq_true rfl) (by omega) (Nat.le_refl _) (Nat.le_refl _) d_X4_stepTo_43 ((sp_X9_pick (d := d - 1) (by omega) gS_18 hQ).mono (fun r w2 hr => ?_))
        obtain ⟨r5, rfl, rfl, hQ⟩ := hr
        refine x_iload_n 2 d_X4_stepTo_46 rfl rfl ?_
        refine x_icmp_lt (tgt := 56) d_X4_stepTo_47 (by decide) (fun c_47_6 => ?_) (fun c_47_6 => ?_)
        · have hQ := hQ.1 c_47_6
          refine x_iload 0 d_X4_stepTo_56 rfl ?_
          refine x_iconst (v := (1 : Int32)) d_X4_stepTo_58 (by decide) ?_
          refine x_iadd d_X4_stepTo_59 ?_
          refine x_topi (fun x7 e_x7 => ?_)
          have hQ := hQ x7 e_x7
          refine x_istore_n (lv2 := [(2, .int x7), (5, .int x4), (0, .ref (a + 17)), (1, .int u), (3, .int x_3), (4, .int x_4)]) d_X4_stepTo_60 rfl (by decide) rfl ?_
          obtain ⟨x8, e_x8⟩ : ∃ z : Int32, z = x_4 + (1 : Int32) := ⟨_, rfl⟩
          have hQ := hQ x8 e_x8
          refine x_iinc (v := x8) (lv2 := [(4, .int x8), (2, .int x7), (5, .int x4), (0, .ref (a + 17)), (1, .int u), (3, .int x_3)]) 5 d_X4_stepTo_61 rfl (by rw [e_x8]; rfl) (by decide) rfl ?_
          refine x_goto (tgt := 12) d_X4_stepTo_64 (by decide) ?_
          refine x_sub [3, 4, 1, 5, 0] (lv2 := [(0, .ref (a + 17)), (1, .int u), (2, .int x7), (3, .int x_3), (4, .int x8)]) rfl ?_
          exact ih x7 x_3 x8 hQ
        · have hQ := hQ.2 c_47_6
          refine x_iload 0 d_X4_stepTo_50 rfl ?_
          refine x_istore_n (lv2 := [(3, .int x4), (5, .int x4), (0, .ref (a + 17)), (1, .int u), (2, .int x_2), (4, .int x_4)]) d_X4_stepTo_52 rfl (by decide) rfl ?_
          refine x_goto (tgt := 61) d_X4_stepTo_53 (by decide) ?_
          obtain ⟨x9, e_x9⟩ : ∃ z : Int32, z = x_4 + (1 : Int32) := ⟨_, rfl⟩
          have hQ := hQ x9 e_x9
          refine x_iinc (v := x9) (lv2 := [(4, .int x9), (3, .int x4), (5, .int x4), (0, .ref (a + 17)), (1, .int u), (2, .int x_2)]) 5 d_X4_stepTo_61 rfl (by rw [e_x9]; rfl) (by decide) rfl ?_
          refine x_goto (tgt := 12) d_X4_stepTo_64 (by decide) ?_
          refine x_sub [3, 4, 5, 1, 0] (lv2 := [(0, .ref (a + 17)), (1, .int u), (2, .int x_2), (3, .int x4), (4, .int x9)]) rfl ?_
          exact ih x_2 x4 x9 hQ
def wp_X4_stepTo (s : RT) (u : Int32) (K : Int32 → Prop) : Prop := ∀ x1 : Int32, x1 = (s.2.2 1) - (1 : Int32) → ∃ m : Nat, lp_X4_stepTo_12 s u K m (0 : Int32) x1 (0 : Int32)
set_option maxHeartbeats 4000000 in
theorem sp_X4_stepTo {G : GX} {l : Launch} {d : Nat} {w : HW} {a : Nat} {s : RT} {u : Int32} {K : Int32 → Prop} (hd : 1 ≤ d) (hQ : wp_X4_stepTo s u K) : Sp G l m_X4_stepTo d 0 0 [.ref (a + 17), .int u] (put w a 19 (shS a s)) (fun r w2 => ∃ (r1 : Int32), r = some (.int r1) ∧ w2 = put w a 19 (shS a s) ∧ K r1) := by
  refine Sp.ofX k_X4_stepTo.1.1 (Nat.le_of_ble_eq_true rfl) ?_
  refine X.lv (lv2 := [(0, .ref (a + 17)), (1, .int u)]) rfl ?_
  refine x_iconst (v := (0 : Int32)) d_X4_stepTo_0 (by decide) ?_
  refine x_istore_n (lv2 := [(2, .int (0 : Int32)), (0, .ref (a + 17)), (1, .int u)]) d_X4_stepTo_1 rfl (by decide) rfl ?_
  refine x_aload_n 1 d_X4_stepTo_2 rfl rfl ?_
  refine x_getf 1 gf_X4_15 gS_17 rfl d_X4_stepTo_3 ?_
  refine x_iconst (v := (1 : Int32)) d_X4_stepTo_6 (by decide) ?_
  refine x_isub d_X4_stepTo_7 ?_
  refine x_topi (fun x1 e_x1 => ?_)
  have hQ := hQ x1 e_x1
  refine x_istore_n (lv2 := [(3, .int x1), (2, .int (0 : Int32)), (0, .ref (a + 17)), (1, .int u)]) d_X4_stepTo_8 rfl (by decide) rfl ?_
  refine x_iconst (v := (0 : Int32)) d_X4_stepTo_9 (by decide) ?_
  refine x_istore (lv2 := [(4, .int (0 : Int32)), (3, .int x1), (2, .int (0 : Int32)), (0, .ref (a + 17)), (1, .int u)]) d_X4_stepTo_10 (by decide) rfl ?_
  refine x_sub [3, 4, 2, 1, 0] (lv2 := [(0, .ref (a + 17)), (1, .int u), (2, .int (0 : Int32)), (3, .int x1), (4, .int (0 : Int32))]) rfl ?_
  obtain ⟨m, hQ⟩ := hQ
  exact jt_X4_stepTo_12 hd m (0 : Int32) x1 (0 : Int32) hQ
def wp_X4_bendOf (s : RT) (i : Int32) (j : Int32) (x : Int64) (K : Int64 → Prop) : Prop := wp_X9_pick 7688 (s.1 18) (((i + (8 : Int32)) + (1 : Int32)) + j) (fun (r1 : Int32) => wp_X9_pick 7688 (s.1 18) ((i + (1 : Int32)) + j) (fun (r2 : Int32) => ∀ x3 : Int64, x3 = (r1.toInt64) - (r2.toInt64) → wp_X9_pick 7688 (s.1 18) ((i + (4 : Int32)) + j) (fun (r4 : Int32) => K (x3 - (((r4.toInt64) * x) / (1000 : Int64))))))
set_option maxHeartbeats 4000000 in
theorem sp_X4_bendOf {G : GX} {l : Launch} {d : Nat} {w : HW} {a : Nat} {s : RT} {i : Int32} {j : Int32} {x : Int64} {K : Int64 → Prop} (hd : 1 ≤ d) (hQ : wp_X4_bendOf s i j x K) : Sp G l m_X4_bendOf d 0 0 [.ref (a + 17), .int i, .int j, .long x] (put w a 19 (shS a s)) (fun r w2 => ∃ (r1 : Int64), r = some (.long r1) ∧ w2 = put w a 19 (shS a s) ∧ K r1) := by
  refine Sp.ofX k_X4_bendOf.1.1 (Nat.le_of_ble_eq_true rfl) ?_
  refine X.lv (lv2 := [(0, .ref (a + 17)), (1, .int i), (2, .int j), (3, .long x)]) rfl ?_
  refine x_aload_n 0 d_X4_bendOf_0 rfl rfl ?_
  refine x_getf 0 gf_X4_11 gS_17 rfl d_X4_bendOf_1 ?_
  refine x_iload_n 1 d_X4_bendOf_4 rfl rfl ?_
  refine x_bipush (v := (8 : Int32)) d_X4_bendOf_5 (by decide) ?_
  refine x_iadd d_X4_bendOf_7 ?_
  refine x_iconst (v := (1 : Int32)) d_X4_bendOf_8 (by decide) ?_
  refine x_iadd d_X4_bendOf_9 ?_
  refine x_iload_n 2 d_X4_bendOf_10 rfl rfl ?_
  refine x_iadd d_X4_bendOf_11 ?_
  refine x_invSN (rest := []) (d' := d - 1) (mc' := 0) (ms' := 0) [.ref (a + 18), .int (((i + (8 : Int32)) + (1 : Int32)) + j)] "LagSolver" k_X9_pick lk_X4_29 rfl rfl (Nat.le_of_ble_eq_true rfl) (by omega) (Nat.le_refl _) (Nat.le_refl _) d_X4_bendOf_12 ((sp_X9_pick (d := d - 1) (by omega) gS_18 hQ).mono (fun r w2 hr => ?_))
  obtain ⟨r1, rfl, rfl, hQ⟩ := hr
  refine x_i2l d_X4_bendOf_15 rfl ?_
  refine x_aload_n 0 d_X4_bendOf_16 rfl rfl ?_
  refine x_getf 0 gf_X4_11 gS_17 rfl d_X4_bendOf_17 ?_
  refine x_iload_n 1 d_X4_bendOf_20 rfl rfl ?_
  refine x_iconst (v := (1 : Int32)) d_X4_bendOf_21 (by decide) ?_
  refine x_iadd d_X4_bendOf_22 ?_
  refine x_iload_n 2 d_X4_bendOf_23 rfl rfl ?_
  refine x_iadd d_X4_bendOf_24 ?_
  refine x_invSN (rest := [.long (r1.toInt64)]) (d' := d - 1) (mc' := 0) (ms' := 0) [.ref (a + 18), .int ((i + (1 : Int32)) + j)] "LagSolver" k_X9_pick lk_X4_29 rfl rfl (Nat.le_of_ble_eq_true rfl) (by omega) (Nat.le_refl _) (Nat.le_refl _) d_X4_bendOf_25 ((sp_X9_pick (d := d - 1) (by omega) gS_18 hQ).mono (fun r w2 hr => ?_))
  obtain ⟨r2, rfl, rfl, hQ⟩ := hr
  refine x_i2l d_X4_bendOf_28 rfl ?_
  refine x_lsub d_X4_bendOf_29 ?_
  refine x_topl (fun x3 e_x3 => ?_)
  have hQ := hQ x3 e_x3
  refine x_lstore (lv2 := [(5, .long x3), (0, .ref (a + 17)), (1, .int i), (2, .int j), (3, .long x)]) d_X4_bendOf_30 (by decide) rfl ?_
  refine x_lload 0 d_X4_bendOf_32 rfl ?_
  refine x_aload_n 1 d_X4_bendOf_34 rfl rfl ?_
  refine x_getf 0 gf_X4_11 gS_17 rfl d_X4_bendOf_35 ?_
  refine x_iload_n 2 d_X4_bendOf_38 rfl rfl ?_
  refine x_iconst (v := (4 : Int32)) d_X4_bendOf_39 (by decide) ?_
  refine x_iadd d_X4_bendOf_40 ?_
  refine x_iload_n 3 d_X4_bendOf_41 rfl rfl ?_
  refine x_iadd d_X4_bendOf_42 ?_
  refine x_invSN (rest := [.long x3]) (d' := d - 1) (mc' := 0) (ms' := 0) [.ref (a + 18), .int ((i + (4 : Int32)) + j)] "LagSolver" k_X9_pick lk_X4_29 rfl rfl (Nat.le_of_ble_eq_true rfl) (by omega) (Nat.le_refl _) (Nat.le_refl _) d_X4_bendOf_43 ((sp_X9_pick (d := d - 1) (by omega) gS_18 hQ).mono (fun r w2 hr => ?_))
  obtain ⟨r4, rfl, rfl, hQ⟩ := hr
  refine x_i2l d_X4_bendOf_46 rfl ?_
  refine x_lload_n 4 d_X4_bendOf_47 rfl rfl ?_
  refine x_lmul d_X4_bendOf_48 ?_
  refine x_ldc2 (v := (1000 : Int64)) kc_X4_37 d_X4_bendOf_49 ?_
  refine x_ldiv d_X4_bendOf_52 (by decide) ?_
  refine x_lsub d_X4_bendOf_53 ?_
  exact x_lret (retL d_X4_bendOf_54 rfl) ⟨_, rfl, rfl, hQ⟩
def wp_X4_valueIn (s : RT) (i : Int32) (j : Int32) (u : Int32) (K : Int32 → Prop) : Prop := ∀ x1 : Int32, x1 = i * (8 : Int32) → wp_X9_pick 7688 (s.1 18) ((x1 + (1 : Int32)) + j) (fun (r2 : Int32) => ∀ x3 : Int64, x3 = r2.toInt64 → ((i < (s.2.2 1) → wp_X9_pick 7688 (s.1 18) x1 (fun (r5 : Int32) => ∀ x6 : Int64, x6 = (u - r5).toInt64 → wp_X9_pick 7688 (s.1 18) (x1 + (8 : Int32)) (fun (r7 : Int32) => wp_X9_pick 7688 (s.1 18) x1 (fun (r8 : Int32) => ∀ x9 : Int64, x9 = (r7 - r8).toInt64 → wp_X9_pick 7688 (s.1 18) ((x1 + (4 : Int32)) + j) (fun (r10 : Int32) => ∀ x11 : Int64, x11 = ((r10.toInt64) * x6) / (1000 : Int64) → wp_X4_bendOf s x1 j x9 (fun (r12 : Int64) => wp_X9_quotient ((r12 * x6) * x6) (x9 * x9) (fun (r13 : Int64) => wp_X9_hold ((x3 + x11) + r13) (fun (r14 : Int32) => K r14)))))))) ∧ (¬ i < (s.2.2 1) → K (x3.toInt32))))
set_option maxHeartbeats 4000000 in
theorem sp_X4_valueIn {G : GX} {l : Launch} {d : Nat} {w : HW} {a : Nat} {s : RT} {i : Int32} {j : Int32} {u : Int32} {K : Int32 → Prop} (hd : 2 ≤ d) (hQ : wp_X4_valueIn s i j u K) : Sp G l m_X4_valueIn d 0 0 [.ref (a + 17), .int i, .int j, .int u] (put w a 19 (shS a s)) (fun r w2 => ∃ (r1 : Int32), r = some (.int r1) ∧ w2 = put w a 19 (shS a s) ∧ K r1) := by
  refine Sp.ofX k_X4_valueIn.1.1 (Nat.le_of_ble_eq_true rfl) ?_
  refine X.lv (lv2 := [(0, .ref (a + 17)), (1, .int i), (2, .int j), (3, .int u)]) rfl ?_
  refine x_iload_n 1 d_X4_valueIn_0 rfl rfl ?_
  refine x_bipush (v := (8 : Int32)) d_X4_valueIn_1 (by decide) ?_
  refine x_imul d_X4_valueIn_3 ?_
  refine x_topi (fun x1 e_x1 => ?_)
  have hQ := hQ x1 e_x1
  refine x_istore (lv2 := [(4, .int x1), (0, .ref (a + 17)), (1, .int i), (2, .int j), (3, .int u)]) d_X4_valueIn_4 (by decide) rfl ?_
  refine x_aload_n 1 d_X4_valueIn_6 rfl rfl ?_
  refine x_getf 0 gf_X4_11 gS_17 rfl d_X4_valueIn_7 ?_
  refine x_iload 0 d_X4_valueIn_10 rfl ?_
  refine x_iconst (v := (1 : Int32)) d_X4_valueIn_12 (by decide) ?_
  refine x_iadd d_X4_valueIn_13 ?_
  refine x_iload_n 3 d_X4_valueIn_14 rfl rfl ?_
  refine x_iadd d_X4_valueIn_15 ?_
  refine x_invSN (rest := []) (d' := d - 1) (mc' := 0) (ms' := 0) [.ref (a + 18), .int ((x1 + (1 : Int32)) + j)] "LagSolver" k_X9_pick lk_X4_29 rfl rfl (Nat.le_of_ble_eq_true rfl) (by omega) (Nat.le_refl _) (Nat.le_refl _) d_X4_valueIn_16 ((sp_X9_pick (d := d - 1) (by omega) gS_18 hQ).mono (fun r w2 hr => ?_))
  obtain ⟨r2, rfl, rfl, hQ⟩ := hr
  refine x_i2l d_X4_valueIn_19 rfl ?_
  refine x_topl (fun x3 e_x3 => ?_)
  have hQ := hQ x3 e_x3
  refine x_lstore (lv2 := [(5, .long x3), (4, .int x1), (0, .ref (a + 17)), (1, .int i), (2, .int j), (3, .int u)]) d_X4_valueIn_20 (by decide) rfl ?_
  refine x_iload_n 3 d_X4_valueIn_22 rfl rfl ?_
  refine x_aload_n 2 d_X4_valueIn_23 rfl rfl ?_
  refine x_getf 1 gf_X4_15 gS_17 rfl d_X4_valueIn_24 ?_
  refine x_icmp_lt (tgt := 34) d_X4_valueIn_27 (by decide) (fun c_27_4 => ?_) (fun c_27_4 => ?_)
  · have hQ := hQ.1 c_27_4
    refine x_iload_n 5 d_X4_valueIn_34 rfl rfl ?_
    refine x_aload_n 2 d_X4_valueIn_35 rfl rfl ?_
    refine x_getf 0 gf_X4_11 gS_17 rfl d_X4_valueIn_36 ?_
    refine x_iload 1 d_X4_valueIn_39 rfl ?_
    refine x_invSN (rest := [.int u]) (d' := d - 1) (mc' := 0) (ms' := 0) [.ref (a + 18), .int x1] "LagSolver" k_X9_pick lk_X4_29 rfl rfl (Nat.le_of_ble_eq_true rfl) (by omega) (Nat.le_refl _) (Nat.le_refl _) d_X4_valueIn_41 ((sp_X9_pick (d := d - 1) (by omega) gS_18 hQ).mono (fun r w2 hr => ?_))
    obtain ⟨r5, rfl, rfl, hQ⟩ := hr
    refine x_isub d_X4_valueIn_44 ?_
    refine x_i2l d_X4_valueIn_45 rfl ?_
    refine x_topl (fun x6 e_x6 => ?_)
    have hQ := hQ x6 e_x6
    refine x_lstore (lv2 := [(7, .long x6), (5, .long x3), (4, .int x1), (0, .ref (a + 17)), (1, .int i), (2, .int j), (3, .int u)]) d_X4_valueIn_46 (by decide) rfl ?_
    refine x_aload_n 3 d_X4_valueIn_48 rfl rfl ?_
    refine x_getf 0 gf_X4_11 gS_17 rfl d_X4_valueIn_49 ?_
    refine x_iload 2 d_X4_valueIn_52 rfl ?_
    refine x_bipush (v := (8 : Int32)) d_X4_valueIn_54 (by decide) ?_
    refine x_iadd d_X4_valueIn_56 ?_
    refine x_invSN (rest := []) (d' := d - 1) (mc' := 0) (ms' := 0) [.ref (a + 18), .int (x1 + (8 : Int32))] "LagSolver" k_X9_pick lk_X4_29 rfl rfl (Nat.le_of_ble_eq_true rfl) (by omega) (Nat.le_refl _) (Nat.le_refl _) d_X4_valueIn_57 ((sp_X9_pick (d := d - 1) (by omega) gS_18 hQ).mono (fun r w2 hr => ?_))
    obtain ⟨r7, rfl, rfl, hQ⟩ := hr
    refine x_aload_n 3 d_X4_valueIn_60 rfl rfl ?_
    refine x_getf 0 gf_X4_11 gS_17 rfl d_X4_valueIn_61 ?_
    refine x_iload 2 d_X4_valueIn_64 rfl ?_
    refine x_invSN (rest := [.int r7]) (d' := d - 1) (mc' := 0) (ms' := 0) [.ref (a + 18), .int x1] "LagSolver" k_X9_pick lk_X4_29 rfl rfl (Nat.le_of_ble_eq_true rfl) (by omega) (Nat.le_refl _) (Nat.le_refl _) d_X4_valueIn_66 ((sp_X9_pick (d := d - 1) (by omega) gS_18 hQ).mono (fun r w2 hr => ?_))
    obtain ⟨r8, rfl, rfl, hQ⟩ := hr
    refine x_isub d_X4_valueIn_69 ?_
    refine x_i2l d_X4_valueIn_70 rfl ?_
    refine x_topl (fun x9 e_x9 => ?_)
    have hQ := hQ x9 e_x9
    refine x_lstore (lv2 := [(9, .long x9), (7, .long x6), (5, .long x3), (4, .int x1), (0, .ref (a + 17)), (1, .int i), (2, .int j), (3, .int u)]) d_X4_valueIn_71 (by decide) rfl ?_
    refine x_aload_n 4 d_X4_valueIn_73 rfl rfl ?_
    refine x_getf 0 gf_X4_11 gS_17 rfl d_X4_valueIn_74 ?_
    refine x_iload 3 d_X4_valueIn_77 rfl ?_
    refine x_iconst (v := (4 : Int32)) d_X4_valueIn_79 (by decide) ?_
    refine x_iadd d_X4_valueIn_80 ?_
    refine x_iload_n 6 d_X4_valueIn_81 rfl rfl ?_
    refine x_iadd d_X4_valueIn_82 ?_
    refine x_invSN (rest := []) (d' := d - 1) (mc' := 0) (ms' := 0) [.ref (a + 18), .int ((x1 + (4 : Int32)) + j)] "LagSolver" k_X9_pick lk_X4_29 rfl rfl (Nat.le_of_ble_eq_true rfl) (by omega) (Nat.le_refl _) (Nat.le_refl _) d_X4_valueIn_83 ((sp_X9_pick (d := d - 1) (by omega) gS_18 hQ).mono (fun r w2 hr => ?_))
    obtain ⟨r10, rfl, rfl, hQ⟩ := hr
    refine x_i2l d_X4_valueIn_86 rfl ?_
    refine x_lload 1 d_X4_valueIn_87 rfl ?_
    refine x_lmul d_X4_valueIn_89 ?_
    refine x_ldc2 (v := (1000 : Int64)) kc_X4_37 d_X4_valueIn_90 ?_
    refine x_ldiv d_X4_valueIn_93 (by decide) ?_
    refine x_topl (fun x11 e_x11 => ?_)
    have hQ := hQ x11 e_x11
    refine x_lstore (lv2 := [(11, .long x11), (9, .long x9), (7, .long x6), (5, .long x3), (4, .int x1), (0, .ref (a + 17)), (1, .int i), (2, .int j), (3, .int u)]) d_X4_valueIn_94 (by decide) rfl ?_
    refine x_aload_n 5 d_X4_valueIn_96 rfl rfl ?_
    refine x_iload 4 d_X4_valueIn_97 rfl ?_
    refine x_iload_n 7 d_X4_valueIn_99 rfl rfl ?_
    refine x_lload 1 d_X4_valueIn_100 rfl ?_
    refine x_invV (rest := []) (d' := d - 1) (mc' := 0) (ms' := 0) [.int x1, .int j, .long x9] k_X4_bendOf lk_X4_39 gS_17 rfl rfl rfl (Nat.le_of_ble_eq_true rfl) (by omega) (Nat.le_refl _) (Nat.le_refl _) d_X4_valueIn_102 ((sp_X4_bendOf (d := d - 1) (by omega) hQ).mono (fun r w2 hr => ?_))
    obtain ⟨r12, rfl, rfl, hQ⟩ := hr
    refine x_lload 2 d_X4_valueIn_105 rfl ?_
    refine x_lmul d_X4_valueIn_107 ?_
    refine x_lload 2 d_X4_valueIn_108 rfl ?_
    refine x_lmul d_X4_valueIn_110 ?_
    refine x_lload 1 d_X4_valueIn_111 rfl ?_
    refine x_lload 1 d_X4_valueIn_113 rfl ?_
    refine x_lmul d_X4_valueIn_115 ?_
    refine x_invSN (rest := []) (d' := d - 1) (mc' := 0) (ms' := 0) [.long ((r12 * x6) * x6), .long (x9 * x9)] "LagSolver" k_X9_quotient lk_X4_43 rfl rfl (Nat.le_of_ble_eq_true rfl) (by omega) (Nat.le_refl _) (Nat.le_refl _) d_X4_valueIn_116 ((sp_X9_quotient (d := d - 1) (by omega) hQ).mono (fun r w2 hr => ?_))
    obtain ⟨r13, rfl, rfl, hQ⟩ := hr
    refine x_lstore (lv2 := [(13, .long r13), (11, .long x11), (9, .long x9), (7, .long x6), (5, .long x3), (4, .int x1), (0, .ref (a + 17)), (1, .int i), (2, .int j), (3, .int u)]) d_X4_valueIn_119 (by decide) rfl ?_
    refine x_lload 4 d_X4_valueIn_121 rfl ?_
    refine x_lload 1 d_X4_valueIn_123 rfl ?_
    refine x_ladd d_X4_valueIn_125 ?_
    refine x_lload 0 d_X4_valueIn_126 rfl ?_
    refine x_ladd d_X4_valueIn_128 ?_
    refine x_invSN (rest := []) (d' := d - 1) (mc' := 0) (ms' := 0) [.long ((x3 + x11) + r13)] "LagSolver" k_X9_hold lk_X4_47 rfl rfl (Nat.le_of_ble_eq_true rfl) (by omega) (Nat.le_refl _) (Nat.le_refl _) d_X4_valueIn_129 ((sp_X9_hold (d := d - 1) (by omega) hQ).mono (fun r w2 hr => ?_))
    obtain ⟨r14, rfl, rfl, hQ⟩ := hr
    exact x_iret (retI d_X4_valueIn_132 rfl) ⟨_, rfl, rfl, hQ⟩
  · have hQ := hQ.2 c_27_4
    refine x_lload 0 d_X4_valueIn_30 rfl ?_
    refine x_l2i d_X4_valueIn_32 rfl ?_
    exact x_iret (retI d_X4_valueIn_33 rfl) ⟨_, rfl, rfl, hQ⟩
def wp_X4_slopeIn (s : RT) (i : Int32) (j : Int32) (u : Int32) (K : Int32 → Prop) : Prop := ((i < (s.2.2 1) → ∀ x2 : Int32, x2 = i * (8 : Int32) → wp_X9_pick 7688 (s.1 18) x2 (fun (r3 : Int32) => ∀ x4 : Int64, x4 = (u - r3).toInt64 → wp_X9_pick 7688 (s.1 18) (x2 + (8 : Int32)) (fun (r5 : Int32) => wp_X9_pick 7688 (s.1 18) x2 (fun (r6 : Int32) => ∀ x7 : Int64, x7 = (r5 - r6).toInt64 → wp_X4_bendOf s x2 j x7 (fun (r8 : Int64) => ∀ x9 : Int64, x9 = ((2000 : Int64) * r8) * x4 → wp_X9_pick 7688 (s.1 18) ((x2 + (4 : Int32)) + j) (fun (r10 : Int32) => wp_X9_quotient x9 (x7 * x7) (fun (r11 : Int64) => wp_X9_hold ((r10.toInt64) + r11) (fun (r12 : Int32) => K r12)))))))) ∧ (¬ i < (s.2.2 1) → K (0 : Int32)))
set_option maxHeartbeats 4000000 in
theorem sp_X4_slopeIn {G : GX} {l : Launch} {d : Nat} {w : HW} {a : Nat} {s : RT} {i : Int32} {j : Int32} {u : Int32} {K : Int32 → Prop} (hd : 2 ≤ d) (hQ : wp_X4_slopeIn s i j u K) : Sp G l m_X4_slopeIn d 0 0 [.ref (a + 17), .int i, .int j, .int u] (put w a 19 (shS a s)) (fun r w2 => ∃ (r1 : Int32), r = some (.int r1) ∧ w2 = put w a 19 (shS a s) ∧ K r1) := by
  refine Sp.ofX k_X4_slopeIn.1.1 (Nat.le_of_ble_eq_true rfl) ?_
  refine X.lv (lv2 := [(0, .ref (a + 17)), (1, .int i), (2, .int j), (3, .int u)]) rfl ?_
  refine x_iload_n 1 d_X4_slopeIn_0 rfl rfl ?_
  refine x_aload_n 0 d_X4_slopeIn_1 rfl rfl ?_
  refine x_getf 1 gf_X4_15 gS_17 rfl d_X4_slopeIn_2 ?_
  refine x_icmp_lt (tgt := 10) d_X4_slopeIn_5 (by decide) (fun c_5_1 => ?_) (fun c_5_1 => ?_)
  · have hQ := hQ.1 c_5_1
    refine x_iload_n 1 d_X4_slopeIn_10 rfl rfl ?_
    refine x_bipush (v := (8 : Int32)) d_X4_slopeIn_11 (by decide) ?_
    refine x_imul d_X4_slopeIn_13 ?_
    refine x_topi (fun x2 e_x2 => ?_)
    have hQ := hQ x2 e_x2
    refine x_istore (lv2 := [(4, .int x2), (0, .ref (a + 17)), (1, .int i), (2, .int j), (3, .int u)]) d_X4_slopeIn_14 (by decide) rfl ?_
    refine x_iload_n 4 d_X4_slopeIn_16 rfl rfl ?_
    refine x_aload_n 1 d_X4_slopeIn_17 rfl rfl ?_
    refine x_getf 0 gf_X4_11 gS_17 rfl d_X4_slopeIn_18 ?_
    refine x_iload 0 d_X4_slopeIn_21 rfl ?_
    refine x_invSN (rest := [.int u]) (d' := d - 1) (mc' := 0) (ms' := 0) [.ref (a + 18), .int x2] "LagSolver" k_X9_pick lk_X4_29 rfl rfl (Nat.le_of_ble_eq_true rfl) (by omega) (Nat.le_refl _) (Nat.le_refl _) d_X4_slopeIn_23 ((sp_X9_pick (d := d - 1) (by omega) gS_18 hQ).mono (fun r w2 hr => ?_))
    obtain ⟨r3, rfl, rfl, hQ⟩ := hr
    refine x_isub d_X4_slopeIn_26 ?_
    refine x_i2l d_X4_slopeIn_27 rfl ?_
    refine x_topl (fun x4 e_x4 => ?_)
    have hQ := hQ x4 e_x4
    refine x_lstore (lv2 := [(5, .long x4), (4, .int x2), (0, .ref (a + 17)), (1, .int i), (2, .int j), (3, .int u)]) d_X4_slopeIn_28 (by decide) rfl ?_
    refine x_aload_n 2 d_X4_slopeIn_30 rfl rfl ?_
    refine x_getf 0 gf_X4_11 gS_17 rfl d_X4_slopeIn_31 ?_
    refine x_iload 1 d_X4_slopeIn_34 rfl ?_
    refine x_bipush (v := (8 : Int32)) d_X4_slopeIn_36 (by decide) ?_
    refine x_iadd d_X4_slopeIn_38 ?_
    refine x_invSN (rest := []) (d' := d - 1) (mc' := 0) (ms' := 0) [.ref (a + 18), .int (x2 + (8 : Int32))] "LagSolver" k_X9_pick lk_X4_29 rfl rfl (Nat.le_of_ble_eq_true rfl) (by omega) (Nat.le_refl _) (Nat.le_refl _) d_X4_slopeIn_39 ((sp_X9_pick (d := d - 1) (by omega) gS_18 hQ).mono (fun r w2 hr => ?_))
    obtain ⟨r5, rfl, rfl, hQ⟩ := hr
    refine x_aload_n 2 d_X4_slopeIn_42 rfl rfl ?_
    refine x_getf 0 gf_X4_11 gS_17 rfl d_X4_slopeIn_43 ?_
    refine x_iload 1 d_X4_slopeIn_46 rfl ?_
    refine x_invSN (rest := [.int r5]) (d' := d - 1) (mc' := 0) (ms' := 0) [.ref (a + 18), .int x2] "LagSolver" k_X9_pick lk_X4_29 rfl rfl (Nat.le_of_ble_eq_true rfl) (by omega) (Nat.le_refl _) (Nat.le_refl _) d_X4_slopeIn_48 ((sp_X9_pick (d := d - 1) (by omega) gS_18 hQ).mono (fun r w2 hr => ?_))
    obtain ⟨r6, rfl, rfl, hQ⟩ := hr
    refine x_isub d_X4_slopeIn_51 ?_
    refine x_i2l d_X4_slopeIn_52 rfl ?_
    refine x_topl (fun x7 e_x7 => ?_)
    have hQ := hQ x7 e_x7
    refine x_lstore (lv2 := [(7, .long x7), (5, .long x4), (4, .int x2), (0, .ref (a + 17)), (1, .int i), (2, .int j), (3, .int u)]) d_X4_slopeIn_53 (by decide) rfl ?_
    refine x_ldc2 (v := (2000 : Int64)) kc_X4_51 d_X4_slopeIn_55 ?_
    refine x_aload_n 3 d_X4_slopeIn_58 rfl rfl ?_
    refine x_iload 2 d_X4_slopeIn_59 rfl ?_
    refine x_iload_n 5 d_X4_slopeIn_61 rfl rfl ?_
    refine x_lload 0 d_X4_slopeIn_62 rfl ?_
    refine x_invV (rest := [.long (2000 : Int64)]) (d' := d - 1) (mc' := 0) (ms' := 0) [.int x2, .int j, .long x7] k_X4_bendOf lk_X4_39 gS_17 rfl rfl rfl (Nat.le_of_ble_eq_true rfl) (by omega) (Nat.le_refl _) (Nat.le_refl _) d_X4_slopeIn_64 ((sp_X4_bendOf (d := d - 1) (by omega) hQ).mono (fun r w2 hr => ?_))
    obtain ⟨r8, rfl, rfl, hQ⟩ := hr
    refine x_lmul d_X4_slopeIn_67 ?_
    refine x_lload 1 d_X4_slopeIn_68 rfl ?_
    refine x_lmul d_X4_slopeIn_70 ?_
    refine x_topl (fun x9 e_x9 => ?_)
    have hQ := hQ x9 e_x9
    refine x_lstore (lv2 := [(9, .long x9), (7, .long x7), (5, .long x4), (4, .int x2), (0, .ref (a + 17)), (1, .int i), (2, .int j), (3, .int u)]) d_X4_slopeIn_71 (by decide) rfl ?_
    refine x_aload_n 4 d_X4_slopeIn_73 rfl rfl ?_
    refine x_getf 0 gf_X4_11 gS_17 rfl d_X4_slopeIn_74 ?_
    refine x_iload 3 d_X4_slopeIn_77 rfl ?_
    refine x_iconst (v := (4 : Int32)) d_X4_slopeIn_79 (by decide) ?_
    refine x_iadd d_X4_slopeIn_80 ?_
    refine x_iload_n 6 d_X4_slopeIn_81 rfl rfl ?_
    refine x_iadd d_X4_slopeIn_82 ?_
    refine x_invSN (rest := []) (d' := d - 1) (mc' := 0) (ms' := 0) [.ref (a + 18), .int ((x2 + (4 : Int32)) + j)] "LagSolver" k_X9_pick lk_X4_29 rfl rfl (Nat.le_of_ble_eq_true rfl) (by omega) (Nat.le_refl _) (Nat.le_refl _) d_X4_slopeIn_83 ((sp_X9_pick (d := d - 1) (by omega) gS_18 hQ).mono (fun r w2 hr => ?_))
    obtain ⟨r10, rfl, rfl, hQ⟩ := hr
    refine x_i2l d_X4_slopeIn_86 rfl ?_
    refine x_lload 0 d_X4_slopeIn_87 rfl ?_
    refine x_lload 1 d_X4_slopeIn_89 rfl ?_
    refine x_lload 1 d_X4_slopeIn_91 rfl ?_
    refine x_lmul d_X4_slopeIn_93 ?_
    refine x_invSN (rest := [.long (r10.toInt64)]) (d' := d - 1) (mc' := 0) (ms' := 0) [.long x9, .long (x7 * x7)] "LagSolver" k_X9_quotient lk_X4_43 rfl rfl (Nat.le_of_ble_eq_true rfl) (by omega) (Nat.le_refl _) (Nat.le_refl _) d_X4_slopeIn_94 ((sp_X9_quotient (d := d - 1) (by omega) hQ).mono (fun r w2 hr => ?_))
    obtain ⟨r11, rfl, rfl, hQ⟩ := hr
    refine x_ladd d_X4_slopeIn_97 ?_
    refine x_invSN (rest := []) (d' := d - 1) (mc' := 0) (ms' := 0) [.long ((r10.toInt64) + r11)] "LagSolver" k_X9_hold lk_X4_47 rfl rfl (Nat.le_of_ble_eq_true rfl) (by omega) (Nat.le_refl _) (Nat.le_refl _) d_X4_slopeIn_98 ((sp_X9_hold (d := d - 1) (by omega) hQ).mono (fun r w2 hr => ?_))
    obtain ⟨r12, rfl, rfl, hQ⟩ := hr
    exact x_iret (retI d_X4_slopeIn_101 rfl) ⟨_, rfl, rfl, hQ⟩
  · have hQ := hQ.2 c_5_1
    refine x_iconst (v := (0 : Int32)) d_X4_slopeIn_8 (by decide) ?_
    exact x_iret (retI d_X4_slopeIn_9 rfl) ⟨_, rfl, rfl, hQ⟩
def lp_X4_restart_12 (K : RT → Prop) : Nat → Int32 → RT → Prop
  | 0, _, _ => False
  | n + 1, x_2, y_0 => (((3 : Int32) ≤ x_2 → K y_0) ∧ (¬ (3 : Int32) ≤ x_2 → wp_X1_valueAt y_0 x_2 (0 : Int32) (fun (r3 : Int32) => wp_X9_put 7688 (y_0.1 18) ((1 : Int32) + x_2) r3 (fun (f4 : Nat → Int32) => ∀ s5 : RT, s5 = rI y_0 18 f4 → ∀ x6 : Int32, x6 = x_2 + (1 : Int32) → lp_X4_restart_12  K n x6 s5))))
set_option maxHeartbeats 4000000 in
theorem jt_X4_restart_12 {G : GX} {l : Launch} {d : Nat} {w : HW} {a : Nat} {K : RT → Prop} (hd : 3 ≤ d) : ∀ (n : Nat) (x_2 : Int32) (y_0 : RT), lp_X4_restart_12 K n x_2 y_0 → X G l m_X4_restart d 0 0 0 0 12 [(0, .ref (a + 17)), (1, .ref (a + 8)), (2, .int x_2)] [] (put w a 19 (shS a y_0)) (fun r w2 => ∃ (z0 : RT), r = none ∧ w2 = put w a 19 (shS a z0) ∧ K z0) := by
  intro n
  induction n with
  | zero =>
    intro x_2 y_0 hQ
    exact hQ.elim
  | succ n ih =>
    intro x_2 y_0 hQ
    refine x_iload_n 2 d_X4_restart_12 rfl rfl ?_
    refine x_iconst (v := (3 : Int32)) d_X4_restart_13 (by decide) ?_
    refine x_icmp_ge (tgt := 39) d_X4_restart_14 (by decide) (fun c_14_2 => ?_) (fun c_14_2 => ?_)
    · have hQ := hQ.1 c_14_2
      exact x_vret (retV d_X4_restart_39 rfl) ⟨_, rfl, rfl, hQ⟩
    · have hQ := hQ.2 c_14_2
      refine x_aload_n 0 d_X4_restart_17 rfl rfl ?_
      refine x_getf 0 gf_X4_11 gS_17 rfl d_X4_restart_18 ?_
      refine x_iconst (v := (1 : Int32)) d_X4_restart_21 (by decide) ?_
      refine x_iload_n 2 d_X4_restart_22 rfl rfl ?_
      refine x_iadd d_X4_restart_23 ?_
      refine x_aload_n 1 d_X4_restart_24 rfl rfl ?_
      refine x_iload_n 2 d_X4_restart_25 rfl rfl ?_
      refine x_iconst (v := (0 : Int32)) d_X4_restart_26 (by decide) ?_
      refine x_invV (rest := [.int ((1 : Int32) + x_2), .ref (a + 18)]) (d' := d - 1) (mc' := 0) (ms' := 0) [.int x_2, .int (0 : Int32)] k_X1_valueAt lk_X4_19 gS_8 rfl rfl rfl (Nat.le_of_ble_eq_true rfl) (by omega) (Nat.le_refl _) (Nat.le_refl _) d_X4_restart_27 ((sp_X1_valueAt (d := d - 1) (by omega) hQ).mono (fun r w2 hr => ?_))
      obtain ⟨r3, rfl, rfl, hQ⟩ := hr
      refine x_invSN (rest := []) (d' := d - 1) (mc' := 0) (ms' := 0) [.ref (a + 18), .int ((1 : Int32) + x_2), .int r3] "LagSolver" k_X9_put lk_X4_25 rfl rfl (Nat.le_of_ble_eq_true rfl) (by omega) (Nat.le_refl _) (Nat.le_refl _) d_X4_restart_30 ((spa_X9_put (d := d - 1) (by omega) gS_18 hQ).mono (fun r w2 hr => ?_))
      obtain ⟨f4, rfl, rfl, hQ⟩ := hr
      obtain ⟨s5, e_s5⟩ : ∃ z : RT, z = rI y_0 18 f4 := ⟨_, rfl⟩
      have hQ := hQ s5 e_s5
      refine X.world (w2 := put w a 19 (shS a s5)) (by rw [e_s5]; exact sS_18) ?_
      obtain ⟨x6, e_x6⟩ : ∃ z : Int32, z = x_2 + (1 : Int32) := ⟨_, rfl⟩
      have hQ := hQ x6 e_x6
      refine x_iinc (v := x6) (lv2 := [(2, .int x6), (0, .ref (a + 17)), (1, .ref (a + 8))]) 2 d_X4_restart_33 rfl (by rw [e_x6]; rfl) (by decide) rfl ?_
      refine x_goto (tgt := 12) d_X4_restart_36 (by decide) ?_
      refine x_sub [1, 2, 0] (lv2 := [(0, .ref (a + 17)), (1, .ref (a + 8)), (2, .int x6)]) rfl ?_
      exact ih x6 s5 hQ
def wp_X4_restart (s : RT) (K : RT → Prop) : Prop := ∀ s1 : RT, s1 = rS s 1 (0 : Int32) → ∃ m : Nat, lp_X4_restart_12  K m (0 : Int32) s1
set_option maxHeartbeats 4000000 in
theorem sp_X4_restart {G : GX} {l : Launch} {d : Nat} {w : HW} {a : Nat} {s : RT} {K : RT → Prop} (hd : 3 ≤ d) (hQ : wp_X4_restart s K) : Sp G l m_X4_restart d 0 0 [.ref (a + 17), .ref (a + 8)] (put w a 19 (shS a s)) (fun r w2 => ∃ (z0 : RT), r = none ∧ w2 = put w a 19 (shS a z0) ∧ K z0) := by
  refine Sp.ofX k_X4_restart.1.1 (Nat.le_of_ble_eq_true rfl) ?_
  refine X.lv (lv2 := [(0, .ref (a + 17)), (1, .ref (a + 8))]) rfl ?_
  refine x_aload_n 0 d_X4_restart_0 rfl rfl ?_
  refine x_iconst (v := (0 : Int32)) d_X4_restart_1 (by decide) ?_
  refine x_putf 1 (.int) pf_X4_15 gS_17 rfl rfl (Nat.le_of_ble_eq_true rfl) d_X4_restart_2 ?_
  obtain ⟨s1, e_s1⟩ : ∃ z : RT, z = rS s 1 (0 : Int32) := ⟨_, rfl⟩
  have hQ := hQ s1 e_s1
  refine X.world (w2 := put w a 19 (shS a s1)) (by rw [e_s1]; exact sS_17_1) ?_
  refine x_aload_n 1 d_X4_restart_5 rfl rfl ?_
  refine x_ifnonnull (tgt := 10) d_X4_restart_6 (by decide) ?_
  refine x_iconst (v := (0 : Int32)) d_X4_restart_10 (by decide) ?_
  refine x_istore_n (lv2 := [(2, .int (0 : Int32)), (0, .ref (a + 17)), (1, .ref (a + 8))]) d_X4_restart_11 rfl (by decide) rfl ?_
  refine x_sub [1, 2, 0] (lv2 := [(0, .ref (a + 17)), (1, .ref (a + 8)), (2, .int (0 : Int32))]) rfl ?_
  obtain ⟨m, hQ⟩ := hQ
  exact jt_X4_restart_12 hd m (0 : Int32) s1 hQ
def lp_X4_append_63 (p : RT) (x : Int32) (y : Int32) (K : RT → Prop) : Nat → Int32 → Int32 → Int32 → RT → Prop
  | 0, _, _, _, _ => False
  | n + 1, x_5, x_6, x_7, y_1 => (((3 : Int32) ≤ x_7 → ∀ s10 : RT, s10 = rS y_1 1 ((y_1.2.2 1) + (1 : Int32)) → K s10) ∧ (¬ (3 : Int32) ≤ x_7 → wp_X9_pick 3 (p.1 5) x_7 (fun (r11 : Int32) => wp_X9_put 7688 (y_1.1 18) ((x_5 + (4 : Int32)) + x_7) r11 (fun (f12 : Nat → Int32) => ∀ s13 : RT, s13 = rI y_1 18 f12 → wp_X9_pick 3 (p.1 4) x_7 (fun (r14 : Int32) => wp_X9_put 7688 (s13.1 18) ((x_6 + (1 : Int32)) + x_7) r14 (fun (f15 : Nat → Int32) => ∀ s16 : RT, s16 = rI s13 18 f15 → ∀ x17 : Int32, x17 = x_7 + (1 : Int32) → lp_X4_append_63 p x y K n x_5 x_6 x17 s16))))))
set_option maxHeartbeats 4000000 in
theorem jt_X4_append_63 {G : GX} {l : Launch} {d : Nat} {w : HW} {a b : Nat} {p : RT} {x : Int32} {y : Int32} {K : RT → Prop} (hd : 1 ≤ d) (hx_0_1 : b + 7 ≤ a ∨ a + 19 ≤ b) : ∀ (n : Nat) (x_5 : Int32) (x_6 : Int32) (x_7 : Int32) (y_1 : RT), lp_X4_append_63 p x y K n x_5 x_6 x_7 y_1 → X G l m_X4_append d 0 0 0 0 63 [(0, .ref (a + 17)), (2, .ref (b + 5)), (4, .ref (b + 4)), (5, .int x_5), (6, .int x_6), (7, .int x_7)] [] (put (put w b 7 (shP b p)) a 19 (shS a y_1)) (fun r w2 => ∃ (z1 : RT), r = none ∧ w2 = put (put w b 7 (shP b p)) a 19 (shS a z1) ∧ K z1) := by
  intro n
  induction n with
  | zero =>
    intro x_5 x_6 x_7 y_1 hQ
    exact hQ.elim
  | succ n ih =>
    intro x_5 x_6 x_7 y_1 hQ
    refine x_iload 5 d_X4_append_63 rfl ?_
    refine x_iconst (v := (3 : Int32)) d_X4_append_65 (by decide) ?_
    refine x_icmp_ge (tgt := 116) d_X4_append_66 (by decide) (fun c_66_9 => ?_) (fun c_66_9 => ?_)
    · have hQ := hQ.1 c_66_9
      refine x_aload_n 0 d_X4_append_116 rfl rfl ?_
      refine x_dup d_X4_append_117 rfl ?_
      refine x_getf 1 gf_X4_15 gS_17 rfl d_X4_append_118 ?_
      refine x_iconst (v := (1 : Int32)) d_X4_append_121 (by decide) ?_
      refine x_iadd d_X4_append_122 ?_
      refine x_putf 1 (.int) pf_X4_15 gS_17 rfl rfl (Nat.le_of_ble_eq_true rfl) d_X4_append_123 ?_
      obtain ⟨s10, e_s10⟩ : ∃ z : RT, z = rS y_1 1 ((y_1.2.2 1) + (1 : Int32)) := ⟨_, rfl⟩
      have hQ := hQ s10 e_s10
      refine X.world (w2 := put (put w b 7 (shP b p)) a 19 (shS a s10)) (by rw [e_s10]; exact sS_17_1) ?_
      exact x_vret (retV d_X4_append_126 rfl) ⟨_, rfl, rfl, hQ⟩
    · have hQ := hQ.2 c_66_9
      refine x_aload_n 0 d_X4_append_69 rfl rfl ?_
      refine x_getf 0 gf_X4_11 gS_17 rfl d_X4_append_70 ?_
      refine x_iload 3 d_X4_append_73 rfl ?_
      refine x_iconst (v := (4 : Int32)) d_X4_append_75 (by decide) ?_
      refine x_iadd d_X4_append_76 ?_
      refine x_iload 5 d_X4_append_77 rfl ?_
      refine x_iadd d_X4_append_79 ?_
      refine x_aload_n 1 d_X4_append_80 rfl rfl ?_
      refine x_iload 5 d_X4_append_81 rfl ?_
      refine x_invSN (rest := [.int ((x_5 + (4 : Int32)) + x_7), .ref (a + 18)]) (d' := d - 1) (mc' := 0) (ms' := 0) [.ref (b + 5), .int x_7] "LagSolver" k_X9_pick lk_X4_29 rfl rfl (Nat.le_of_ble_eq_true rfl) (by omega) (Nat.le_refl _) (Nat.le_refl _) d_X4_append_83 ((sp_X9_pick (d := d - 1) (by omega) (put_out (by omega) gP_5) hQ).mono (fun r w2 hr => ?_))
      obtain ⟨r11, rfl, rfl, hQ⟩ := hr
      refine x_invSN (rest := []) (d' := d - 1) (mc' := 0) (ms' := 0) [.ref (a + 18), .int ((x_5 + (4 : Int32)) + x_7), .int r11] "LagSolver" k_X9_put lk_X4_25 rfl rfl (Nat.le_of_ble_eq_true rfl) (by omega) (Nat.le_refl _) (Nat.le_refl _) d_X4_append_86 ((spa_X9_put (d := d - 1) (by omega) gS_18 hQ).mono (fun r w2 hr => ?_))
      obtain ⟨f12, rfl, rfl, hQ⟩ := hr
      obtain ⟨s13, e_s13⟩ : ∃ z : RT, z = rI y_1 18 f12 := ⟨_, rfl⟩
      have hQ := hQ s13 e_s13
      refine X.world (w2 := put (put w b 7 (shP b p)) a 19 (shS a s13)) (by rw [e_s13]; exact sS_18) ?_
      refine x_aload_n 0 d_X4_append_89 rfl rfl ?_
      refine x_getf 0 gf_X4_11 gS_17 rfl d_X4_append_90 ?_
      refine x_iload 4 d_X4_append_93 rfl ?_
      refine x_iconst (v := (1 : Int32)) d_X4_append_95 (by decide) ?_
      refine x_iadd d_X4_append_96 ?_
      refine x_iload 5 d_X4_append_97 rfl ?_
      refine x_iadd d_X4_append_99 ?_
      refine x_aload 2 d_X4_append_100 rfl ?_
      refine x_iload 5 d_X4_append_102 rfl ?_
      refine x_invSN (rest := [.int ((x_6 + (1 : Int32)) + x_7), .ref (a + 18)]) (d' := d - 1) (mc' := 0) (ms' := 0) [.ref (b + 4), .int x_7] "LagSolver" k_X9_pick lk_X4_29 rfl rfl (Nat.le_of_ble_eq_true rfl) (by omega) (Nat.le_refl _) (Nat.le_refl _) d_X4_append_104 ((sp_X9_pick (d := d - 1) (by omega) (put_out (by omega) gP_4) hQ).mono (fun r w2 hr => ?_))
      obtain ⟨r14, rfl, rfl, hQ⟩ := hr
      refine x_invSN (rest := []) (d' := d - 1) (mc' := 0) (ms' := 0) [.ref (a + 18), .int ((x_6 + (1 : Int32)) + x_7), .int r14] "LagSolver" k_X9_put lk_X4_25 rfl rfl (Nat.le_of_ble_eq_true rfl) (by omega) (Nat.le_refl _) (Nat.le_refl _) d_X4_append_107 ((spa_X9_put (d := d - 1) (by omega) gS_18 hQ).mono (fun r w2 hr => ?_))
      obtain ⟨f15, rfl, rfl, hQ⟩ := hr
      obtain ⟨s16, e_s16⟩ : ∃ z : RT, z = rI s13 18 f15 := ⟨_, rfl⟩
      have hQ := hQ s16 e_s16
      refine X.world (w2 := put (put w b 7 (shP b p)) a 19 (shS a s16)) (by rw [e_s16]; exact sS_18) ?_
      obtain ⟨x17, e_x17⟩ : ∃ z : Int32, z = x_7 + (1 : Int32) := ⟨_, rfl⟩
      have hQ := hQ x17 e_x17
      refine x_iinc (v := x17) (lv2 := [(7, .int x17), (0, .ref (a + 17)), (2, .ref (b + 5)), (4, .ref (b + 4)), (5, .int x_5), (6, .int x_6)]) 5 d_X4_append_110 rfl (by rw [e_x17]; rfl) (by decide) rfl ?_
      refine x_goto (tgt := 63) d_X4_append_113 (by decide) ?_
      refine x_sub [1, 2, 3, 4, 5, 0] (lv2 := [(0, .ref (a + 17)), (2, .ref (b + 5)), (4, .ref (b + 4)), (5, .int x_5), (6, .int x_6), (7, .int x17)]) rfl ?_
      exact ih x_5 x_6 x17 s16 hQ
def wp_X4_append (p : RT) (s : RT) (x : Int32) (y : Int32) (K : RT → Prop) : Prop := (((s.2.2 1) < (960 : Int32) → ∀ x2 : Int32, x2 = (s.2.2 1) * (8 : Int32) → ∀ x3 : Int32, x3 = x2 + (8 : Int32) → wp_X9_put 7688 (s.1 18) (x2 + (7 : Int32)) y (fun (f4 : Nat → Int32) => ∀ s5 : RT, s5 = rI s 18 f4 → wp_X9_pick 7688 (s5.1 18) x2 (fun (r6 : Int32) => wp_X9_put 7688 (s5.1 18) x3 (r6 + x) (fun (f7 : Nat → Int32) => ∀ s8 : RT, s8 = rI s5 18 f7 → ∃ m : Nat, lp_X4_append_63 p x y K m x2 x3 (0 : Int32) s8)))) ∧ (¬ (s.2.2 1) < (960 : Int32) → K s))
set_option maxHeartbeats 4000000 in
theorem sp_X4_append {G : GX} {l : Launch} {d : Nat} {w : HW} {a b : Nat} {p : RT} {s : RT} {x : Int32} {y : Int32} {K : RT → Prop} (hd : 1 ≤ d) (hx_0_1 : b + 7 ≤ a ∨ a + 19 ≤ b) (hQ : wp_X4_append p s x y K) : Sp G l m_X4_append d 0 0 [.ref (a + 17), .int x, .ref (b + 5), .int y, .ref (b + 4)] (put (put w b 7 (shP b p)) a 19 (shS a s)) (fun r w2 => ∃ (z1 : RT), r = none ∧ w2 = put (put w b 7 (shP b p)) a 19 (shS a z1) ∧ K z1) := by
  refine Sp.ofX k_X4_append.1.1 (Nat.le_of_ble_eq_true rfl) ?_
  refine X.lv (lv2 := [(0, .ref (a + 17)), (1, .int x), (2, .ref (b + 5)), (3, .int y), (4, .ref (b + 4))]) rfl ?_
  refine x_aload_n 0 d_X4_append_0 rfl rfl ?_
  refine x_getf 1 gf_X4_15 gS_17 rfl d_X4_append_1 ?_
  refine x_sipush (v := (960 : Int32)) d_X4_append_4 (by decide) ?_
  refine x_icmp_lt (tgt := 11) d_X4_append_7 (by decide) (fun c_7_1 => ?_) (fun c_7_1 => ?_)
  · have hQ := hQ.1 c_7_1
    refine x_aload_n 0 d_X4_append_11 rfl rfl ?_
    refine x_getf 1 gf_X4_15 gS_17 rfl d_X4_append_12 ?_
    refine x_bipush (v := (8 : Int32)) d_X4_append_15 (by decide) ?_
    refine x_imul d_X4_append_17 ?_
    refine x_topi (fun x2 e_x2 => ?_)
    have hQ := hQ x2 e_x2
    refine x_istore (lv2 := [(5, .int x2), (0, .ref (a + 17)), (1, .int x), (2, .ref (b + 5)), (3, .int y), (4, .ref (b + 4))]) d_X4_append_18 (by decide) rfl ?_
    refine x_iload 0 d_X4_append_20 rfl ?_
    refine x_bipush (v := (8 : Int32)) d_X4_append_22 (by decide) ?_
    refine x_iadd d_X4_append_24 ?_
    refine x_topi (fun x3 e_x3 => ?_)
    have hQ := hQ x3 e_x3
    refine x_istore (lv2 := [(6, .int x3), (5, .int x2), (0, .ref (a + 17)), (1, .int x), (2, .ref (b + 5)), (3, .int y), (4, .ref (b + 4))]) d_X4_append_25 (by decide) rfl ?_
    refine x_aload_n 2 d_X4_append_27 rfl rfl ?_
    refine x_getf 0 gf_X4_11 gS_17 rfl d_X4_append_28 ?_
    refine x_iload 1 d_X4_append_31 rfl ?_
    refine x_bipush (v := (7 : Int32)) d_X4_append_33 (by decide) ?_
    refine x_iadd d_X4_append_35 ?_
    refine x_iload_n 5 d_X4_append_36 rfl rfl ?_
    refine x_invSN (rest := []) (d' := d - 1) (mc' := 0) (ms' := 0) [.ref (a + 18), .int (x2 + (7 : Int32)), .int y] "LagSolver" k_X9_put lk_X4_25 rfl rfl (Nat.le_of_ble_eq_true rfl) (by omega) (Nat.le_refl _) (Nat.le_refl _) d_X4_append_37 ((spa_X9_put (d := d - 1) (by omega) gS_18 hQ).mono (fun r w2 hr => ?_))
    obtain ⟨f4, rfl, rfl, hQ⟩ := hr
    obtain ⟨s5, e_s5⟩ : ∃ z : RT, z = rI s 18 f4 := ⟨_, rfl⟩
    have hQ := hQ s5 e_s5
    refine X.world (w2 := put (put w b 7 (shP b p)) a 19 (shS a s5)) (by rw [e_s5]; exact sS_18) ?_
    refine x_aload_n 2 d_X4_append_40 rfl rfl ?_
    refine x_getf 0 gf_X4_11 gS_17 rfl d_X4_append_41 ?_
    refine x_iload 0 d_X4_append_44 rfl ?_
    refine x_aload_n 2 d_X4_append_46 rfl rfl ?_
    refine x_getf 0 gf_X4_11 gS_17 rfl d_X4_append_47 ?_
    refine x_iload 1 d_X4_append_50 rfl ?_
    refine x_invSN (rest := [.int x3, .ref (a + 18)]) (d' := d - 1) (mc' := 0) (ms' := 0) [.ref (a + 18), .int x2] "LagSolver" k_X9_pick lk_X4_29 rfl rfl (Nat.le_of_ble_eq_true rfl) (by omega) (Nat.le_refl _) (Nat.le_refl _) d_X4_append_52 ((sp_X9_pick (d := d - 1) (by omega) gS_18 hQ).mono (fun r w2 hr => ?_))
    obtain ⟨r6, rfl, rfl, hQ⟩ := hr
    refine x_iload_n 3 d_X4_append_55 rfl rfl ?_
    refine x_iadd d_X4_append_56 ?_
    refine x_invSN (rest := []) (d' := d - 1) (mc' := 0) (ms' := 0) [.ref (a + 18), .int x3, .int (r6 + x)] "LagSolver" k_X9_put lk_X4_25 rfl rfl (Nat.le_of_ble_eq_true rfl) (by omega) (Nat.le_refl _) (Nat.le_refl _) d_X4_append_57 ((spa_X9_put (d := d - 1) (by omega) gS_18 hQ).mono (fun r w2 hr => ?_))
    obtain ⟨f7, rfl, rfl, hQ⟩ := hr
    obtain ⟨s8, e_s8⟩ : ∃ z : RT, z = rI s5 18 f7 := ⟨_, rfl⟩
    have hQ := hQ s8 e_s8
    refine X.world (w2 := put (put w b 7 (shP b p)) a 19 (shS a s8)) (by rw [e_s8]; exact sS_18) ?_
    refine x_iconst (v := (0 : Int32)) d_X4_append_60 (by decide) ?_
    refine x_istore (lv2 := [(7, .int (0 : Int32)), (6, .int x3), (5, .int x2), (0, .ref (a + 17)), (1, .int x), (2, .ref (b + 5)), (3, .int y), (4, .ref (b + 4))]) d_X4_append_61 (by decide) rfl ?_
    refine x_sub [3, 5, 7, 2, 1, 0] (lv2 := [(0, .ref (a + 17)), (2, .ref (b + 5)), (4, .ref (b + 4)), (5, .int x2), (6, .int x3), (7, .int (0 : Int32))]) rfl ?_
    obtain ⟨m, hQ⟩ := hQ
    exact jt_X4_append_63 hd hx_0_1 m x2 x3 (0 : Int32) s8 hQ
  · have hQ := hQ.2 c_7_1
    exact x_vret (retV d_X4_append_10 rfl) ⟨_, rfl, rfl, hQ⟩
def lp_X5_take_31 (t : RT) (i : Int32) (K : RT → Prop) : Nat → Int32 → RT → Prop
  | 0, _, _ => False
  | n + 1, x_3, y_1 => (((80 : Int32) ≤ x_3 → K y_1) ∧ (¬ (80 : Int32) ≤ x_3 → wp_X9_pick 80 (t.1 2) x_3 (fun (r6 : Int32) => wp_X9_put 240 (y_1.1 2) ((i * (80 : Int32)) + x_3) r6 (fun (f7 : Nat → Int32) => ∀ s8 : RT, s8 = rI y_1 2 f7 → ∀ x9 : Int32, x9 = x_3 + (1 : Int32) → lp_X5_take_31 t i K n x9 s8))))
set_option maxHeartbeats 4000000 in
theorem jt_X5_take_31 {G : GX} {l : Launch} {d : Nat} {w : HW} {a b : Nat} {t : RT} {i : Int32} {K : RT → Prop} (hd : 1 ≤ d) (hx_0_1 : b + 3 ≤ a ∨ a + 19 ≤ b) : ∀ (n : Nat) (x_3 : Int32) (y_1 : RT), lp_X5_take_31 t i K n x_3 y_1 → X G l m_X5_take d 0 0 0 0 31 [(0, .ref (a + 1)), (1, .int i), (2, .ref b), (3, .int x_3)] [] (put (put w b 3 (shT b t)) a 19 (shS a y_1)) (fun r w2 => ∃ (z1 : RT), r = none ∧ w2 = put (put w b 3 (shT b t)) a 19 (shS a z1) ∧ K z1) := by
  intro n
  induction n with
  | zero =>
    intro x_3 y_1 hQ
    exact hQ.elim
  | succ n ih =>
    intro x_3 y_1 hQ
    refine x_iload_n 3 d_X5_take_31 rfl rfl ?_
    refine x_bipush (v := (80 : Int32)) d_X5_take_32 (by decide) ?_
    refine x_icmp_ge (tgt := 64) d_X5_take_34 (by decide) (fun c_34_5 => ?_) (fun c_34_5 => ?_)
    · have hQ := hQ.1 c_34_5
      exact x_vret (retV d_X5_take_64 rfl) ⟨_, rfl, rfl, hQ⟩
    · have hQ := hQ.2 c_34_5
      refine x_aload_n 0 d_X5_take_37 rfl rfl ?_
      refine x_getf 0 gf_X5_9 gS_1 rfl d_X5_take_38 ?_
      refine x_iload_n 1 d_X5_take_41 rfl rfl ?_
      refine x_bipush (v := (80 : Int32)) d_X5_take_42 (by decide) ?_
      refine x_imul d_X5_take_44 ?_
      refine x_iload_n 3 d_X5_take_45 rfl rfl ?_
      refine x_iadd d_X5_take_46 ?_
      refine x_aload_n 2 d_X5_take_47 rfl rfl ?_
      refine x_getfN 3 gf_X5_34 (put_out (by omega) gT_0) rfl d_X5_take_48 ?_
      refine x_iload_n 3 d_X5_take_51 rfl rfl ?_
      refine x_invSN (rest := [.int ((i * (80 : Int32)) + x_3), .ref (a + 2)]) (d' := d - 1) (mc' := 0) (ms' := 0) [.ref (b + 2), .int x_3] "LagSolver" k_X9_pick lk_X5_37 rfl rfl (Nat.le_of_ble_eq_true rfl) (by omega) (Nat.le_refl _) (Nat.le_refl _) d_X5_take_52 ((sp_X9_pick (d := d - 1) (by omega) (put_out (by omega) gT_2) hQ).mono (fun r w2 hr => ?_))
      obtain ⟨r6, rfl, rfl, hQ⟩ := hr
      refine x_invSN (rest := []) (d' := d - 1) (mc' := 0) (ms' := 0) [.ref (a + 2), .int ((i * (80 : Int32)) + x_3), .int r6] "LagSolver" k_X9_put lk_X5_27 rfl rfl (Nat.le_of_ble_eq_true rfl) (by omega) (Nat.le_refl _) (Nat.le_refl _) d_X5_take_55 ((spa_X9_put (d := d - 1) (by omega) gS_2 hQ).mono (fun r w2 hr => ?_))
      obtain ⟨f7, rfl, rfl, hQ⟩ := hr
      obtain ⟨s8, e_s8⟩ : ∃ z : RT, z = rI y_1 2 f7 := ⟨_, rfl⟩
      have hQ := hQ s8 e_s8
      refine X.world (w2 := put (put w b 3 (shT b t)) a 19 (shS a s8)) (by rw [e_s8]; exact sS_2) ?_
      obtain ⟨x9, e_x9⟩ : ∃ z : Int32, z = x_3 + (1 : Int32) := ⟨_, rfl⟩
      have hQ := hQ x9 e_x9
      refine x_iinc (v := x9) (lv2 := [(3, .int x9), (0, .ref (a + 1)), (1, .int i), (2, .ref b)]) 3 d_X5_take_58 rfl (by rw [e_x9]; rfl) (by decide) rfl ?_
      refine x_goto (tgt := 31) d_X5_take_61 (by decide) ?_
      refine x_sub [1, 2, 3, 0] (lv2 := [(0, .ref (a + 1)), (1, .int i), (2, .ref b), (3, .int x9)]) rfl ?_
      exact ih x9 s8 hQ
def wp_X5_take (t : RT) (s : RT) (i : Int32) (K : RT → Prop) : Prop := wp_X9_put 3 (s.1 3) i (t.2.2 4) (fun (f1 : Nat → Int32) => ∀ s2 : RT, s2 = rI s 3 f1 → wp_X9_put 3 (s2.1 4) i (t.2.2 5) (fun (f3 : Nat → Int32) => ∀ s4 : RT, s4 = rI s2 4 f3 → ∃ m : Nat, lp_X5_take_31 t i K m (0 : Int32) s4))
set_option maxHeartbeats 4000000 in
theorem sp_X5_take {G : GX} {l : Launch} {d : Nat} {w : HW} {a b : Nat} {t : RT} {s : RT} {i : Int32} {K : RT → Prop} (hd : 1 ≤ d) (hx_0_1 : b + 3 ≤ a ∨ a + 19 ≤ b) (hQ : wp_X5_take t s i K) : Sp G l m_X5_take d 0 0 [.ref (a + 1), .int i, .ref b] (put (put w b 3 (shT b t)) a 19 (shS a s)) (fun r w2 => ∃ (z1 : RT), r = none ∧ w2 = put (put w b 3 (shT b t)) a 19 (shS a z1) ∧ K z1) := by
  refine Sp.ofX k_X5_take.1.1 (Nat.le_of_ble_eq_true rfl) ?_
  refine X.lv (lv2 := [(0, .ref (a + 1)), (1, .int i), (2, .ref b)]) rfl ?_
  refine x_aload_n 2 d_X5_take_0 rfl rfl ?_
  refine x_ifnonnull (tgt := 5) d_X5_take_1 (by decide) ?_
  refine x_aload_n 0 d_X5_take_5 rfl rfl ?_
  refine x_getf 1 gf_X5_15 gS_1 rfl d_X5_take_6 ?_
  refine x_iload_n 1 d_X5_take_9 rfl rfl ?_
  refine x_aload_n 2 d_X5_take_10 rfl rfl ?_
  refine x_getfN 4 gf_X5_21 (put_out (by omega) gT_0) rfl d_X5_take_11 ?_
  refine x_invSN (rest := []) (d' := d - 1) (mc' := 0) (ms' := 0) [.ref (a + 3), .int i, .int (t.2.2 4)] "LagSolver" k_X9_put lk_X5_27 rfl rfl (Nat.le_of_ble_eq_true rfl) (by omega) (Nat.le_refl _) (Nat.le_refl _) d_X5_take_14 ((spa_X9_put (d := d - 1) (by omega) gS_3 hQ).mono (fun r w2 hr => ?_))
  obtain ⟨f1, rfl, rfl, hQ⟩ := hr
  obtain ⟨s2, e_s2⟩ : ∃ z : RT, z = rI s 3 f1 := ⟨_, rfl⟩
  have hQ := hQ s2 e_s2
  refine X.world (w2 := put (put w b 3 (shT b t)) a 19 (shS a s2)) (by rw [e_s2]; exact sS_3) ?_
  refine x_aload_n 0 d_X5_take_17 rfl rfl ?_
  refine x_getf 2 gf_X5_18 gS_1 rfl d_X5_take_18 ?_
  refine x_iload_n 1 d_X5_take_21 rfl rfl ?_
  refine x_aload_n 2 d_X5_take_22 rfl rfl ?_
  refine x_getfN 5 gf_X5_31 (put_out (by omega) gT_0) rfl d_X5_take_23 ?_
  refine x_invSN (rest := []) (d' := d - 1) (mc' := 0) (ms' := 0) [.ref (a + 4), .int i, .int (t.2.2 5)] "LagSolver" k_X9_put lk_X5_27 rfl rfl (Nat.le_of_ble_eq_true rfl) (by omega) (Nat.le_refl _) (Nat.le_refl _) d_X5_take_26 ((spa_X9_put (d := d - 1) (by omega) gS_4 hQ).mono (fun r w2 hr => ?_))
  obtain ⟨f3, rfl, rfl, hQ⟩ := hr
  obtain ⟨s4, e_s4⟩ : ∃ z : RT, z = rI s2 4 f3 := ⟨_, rfl⟩
  have hQ := hQ s4 e_s4
  refine X.world (w2 := put (put w b 3 (shT b t)) a 19 (shS a s4)) (by rw [e_s4]; exact sS_4) ?_
  refine x_iconst (v := (0 : Int32)) d_X5_take_29 (by decide) ?_
  refine x_istore_n (lv2 := [(3, .int (0 : Int32)), (0, .ref (a + 1)), (1, .int i), (2, .ref b)]) d_X5_take_30 rfl (by decide) rfl ?_
  refine x_sub [1, 2, 3, 0] (lv2 := [(0, .ref (a + 1)), (1, .int i), (2, .ref b), (3, .int (0 : Int32))]) rfl ?_
  obtain ⟨m, hQ⟩ := hQ
  exact jt_X5_take_31 hd hx_0_1 m (0 : Int32) s4 hQ
def lp_X5_allOperands_4 (s : RT) (K : Int32 → Prop) : Nat → Int32 → Int32 → Prop
  | 0, _, _ => False
  | n + 1, x_1, x_2 => (((3 : Int32) ≤ x_2 → K x_1) ∧ (¬ (3 : Int32) ≤ x_2 → wp_X9_pick 3 (s.1 4) x_2 (fun (r2 : Int32) => ∀ x3 : Int32, x3 = x_1 ||| r2 → ∀ x4 : Int32, x4 = x_2 + (1 : Int32) → lp_X5_allOperands_4 s K n x3 x4)))
set_option maxHeartbeats 4000000 in
theorem jt_X5_allOperands_4 {G : GX} {l : Launch} {d : Nat} {w : HW} {a : Nat} {s : RT} {K : Int32 → Prop} (hd : 1 ≤ d) : ∀ (n : Nat) (x_1 : Int32) (x_2 : Int32), lp_X5_allOperands_4 s K n x_1 x_2 → X G l m_X5_allOperands d 0 0 0 0 4 [(0, .ref (a + 1)), (1, .int x_1), (2, .int x_2)] [] (put w a 19 (shS a s)) (fun r w2 => ∃ (r1 : Int32), r = some (.int r1) ∧ w2 = put w a 19 (shS a s) ∧ K r1) := by
  intro n
  induction n with
  | zero =>
    intro x_1 x_2 hQ
    exact hQ.elim
  | succ n ih =>
    intro x_1 x_2 hQ
    refine x_iload_n 2 d_X5_allOperands_4 rfl rfl ?_
    refine x_iconst (v := (3 : Int32)) d_X5_allOperands_5 (by decide) ?_
    refine x_icmp_ge (tgt := 26) d_X5_allOperands_6 (by decide) (fun c_6_1 => ?_) (fun c_6_1 => ?_)
    · have hQ := hQ.1 c_6_1
      refine x_iload_n 1 d_X5_allOperands_26 rfl rfl ?_
      exact x_iret (retI d_X5_allOperands_27 rfl) ⟨_, rfl, rfl, hQ⟩
    · have hQ := hQ.2 c_6_1
      refine x_iload_n 1 d_X5_allOperands_9 rfl rfl ?_
      refine x_aload_n 0 d_X5_allOperands_10 rfl rfl ?_
      refine x_getf 2 gf_X5_18 gS_1 rfl d_X5_allOperands_11 ?_
      refine x_iload_n 2 d_X5_allOperands_14 rfl rfl ?_
      refine x_invSN (rest := [.int x_1]) (d' := d - 1) (mc' := 0) (ms' := 0) [.ref (a + 4), .int x_2] "LagSolver" k_X9_pick lk_X5_37 rfl rfl (Nat.le_of_ble_eq_true rfl) (by omega) (Nat.le_refl _) (Nat.le_refl _) d_X5_allOperands_15 ((sp_X9_pick (d := d - 1) (by omega) gS_4 hQ).mono (fun r w2 hr => ?_))
      obtain ⟨r2, rfl, rfl, hQ⟩ := hr
      refine x_ior d_X5_allOperands_18 ?_
      refine x_topi (fun x3 e_x3 => ?_)
      have hQ := hQ x3 e_x3
      refine x_istore_n (lv2 := [(1, .int x3), (0, .ref (a + 1)), (2, .int x_2)]) d_X5_allOperands_19 rfl (by decide) rfl ?_
      obtain ⟨x4, e_x4⟩ : ∃ z : Int32, z = x_2 + (1 : Int32) := ⟨_, rfl⟩
      have hQ := hQ x4 e_x4
      refine x_iinc (v := x4) (lv2 := [(2, .int x4), (1, .int x3), (0, .ref (a + 1))]) 2 d_X5_allOperands_20 rfl (by rw [e_x4]; rfl) (by decide) rfl ?_
      refine x_goto (tgt := 4) d_X5_allOperands_23 (by decide) ?_
      refine x_sub [2, 1, 0] (lv2 := [(0, .ref (a + 1)), (1, .int x3), (2, .int x4)]) rfl ?_
      exact ih x3 x4 hQ
def wp_X5_allOperands (s : RT) (K : Int32 → Prop) : Prop := ∃ m : Nat, lp_X5_allOperands_4 s K m (0 : Int32) (0 : Int32)
set_option maxHeartbeats 4000000 in
theorem sp_X5_allOperands {G : GX} {l : Launch} {d : Nat} {w : HW} {a : Nat} {s : RT} {K : Int32 → Prop} (hd : 1 ≤ d) (hQ : wp_X5_allOperands s K) : Sp G l m_X5_allOperands d 0 0 [.ref (a + 1)] (put w a 19 (shS a s)) (fun r w2 => ∃ (r1 : Int32), r = some (.int r1) ∧ w2 = put w a 19 (shS a s) ∧ K r1) := by
  refine Sp.ofX k_X5_allOperands.1.1 (Nat.le_of_ble_eq_true rfl) ?_
  refine X.lv (lv2 := [(0, .ref (a + 1))]) rfl ?_
  refine x_iconst (v := (0 : Int32)) d_X5_allOperands_0 (by decide) ?_
  refine x_istore_n (lv2 := [(1, .int (0 : Int32)), (0, .ref (a + 1))]) d_X5_allOperands_1 rfl (by decide) rfl ?_
  refine x_iconst (v := (0 : Int32)) d_X5_allOperands_2 (by decide) ?_
  refine x_istore_n (lv2 := [(2, .int (0 : Int32)), (1, .int (0 : Int32)), (0, .ref (a + 1))]) d_X5_allOperands_3 rfl (by decide) rfl ?_
  refine x_sub [2, 1, 0] (lv2 := [(0, .ref (a + 1)), (1, .int (0 : Int32)), (2, .int (0 : Int32))]) rfl ?_
  obtain ⟨m, hQ⟩ := hQ
  exact jt_X5_allOperands_4 hd m (0 : Int32) (0 : Int32) hQ
def jp_X5_join_85 (i : Int32) (x : Int64) (y : Int64) (K : Int32 → Prop) : Prop := K ((if y < x then x else y).toInt32)
set_option maxHeartbeats 4000000 in
theorem jt_X5_join_85 {G : GX} {l : Launch} {d : Nat} {w : HW} {i : Int32} {x : Int64} {y : Int64} {K : Int32 → Prop} (hd : 1 ≤ d) (hQ : jp_X5_join_85 i x y K) : X G l m_X5_join d 0 0 0 0 85 [(1, .long x), (3, .long y)] [] (w) (fun r w2 => ∃ (r1 : Int32), r = some (.int r1) ∧ w2 = w ∧ K r1) := by
  refine x_lload_n 0 d_X5_join_85 rfl rfl ?_
  refine x_lload_n 1 d_X5_join_86 rfl rfl ?_
  refine x_mmaxL lk_X5_63 jw_maxL_s iw_Math jw_maxL_c (Nat.le_of_ble_eq_true rfl) (by omega) d_X5_join_87 ?_
  refine x_l2i d_X5_join_90 rfl ?_
  exact x_iret (retI d_X5_join_91 rfl) ⟨_, rfl, rfl, hQ⟩
def wp_X5_join (i : Int32) (x : Int64) (y : Int64) (K : Int32 → Prop) : Prop := ((i = (2 : Int32) → wp_X9_hold (x + y) (fun (r1 : Int32) => K r1)) ∧ (¬ i = (2 : Int32) → ((i = (3 : Int32) → wp_X9_hold (x - y) (fun (r2 : Int32) => K r2)) ∧ (¬ i = (3 : Int32) → ((i = (4 : Int32) → wp_X9_hold ((x * y) / (1000 : Int64)) (fun (r3 : Int32) => K r3)) ∧ (¬ i = (4 : Int32) → ((i = (5 : Int32) → wp_X9_quotient (x * (1000 : Int64)) y (fun (r4 : Int64) => wp_X9_hold r4 (fun (r5 : Int32) => K r5))) ∧ (¬ i = (5 : Int32) → ((i = (7 : Int32) → K ((if y < x then y else x).toInt32)) ∧ (¬ i = (7 : Int32) → (jp_X5_join_85 i x y K )))))))))))
set_option maxHeartbeats 4000000 in
theorem sp_X5_join {G : GX} {l : Launch} {d : Nat} {w : HW} {i : Int32} {x : Int64} {y : Int64} {K : Int32 → Prop} (hd : 1 ≤ d) (hQ : wp_X5_join i x y K) : Sp G l m_X5_join d 0 0 [.int i, .long x, .long y] (w) (fun r w2 => ∃ (r1 : Int32), r = some (.int r1) ∧ w2 = w ∧ K r1) := by
  refine Sp.ofX k_X5_join.1.1 (Nat.le_of_ble_eq_true rfl) ?_
  refine X.lv (lv2 := [(0, .int i), (1, .long x), (3, .long y)]) rfl ?_
  refine x_iload_n 0 d_X5_join_0 rfl rfl ?_
  by_cases c_1_2 : i = (2 : Int32)
  · have hQ := hQ.1 c_1_2
    refine x_tableIn (off := (39 : Int)) (tgt := 40) d_X5_join_1 (by rw [c_1_2]; decide) (by rw [c_1_2]; decide) (by rw [c_1_2]; rfl) (by decide) ?_
    refine x_lload_n 1 d_X5_join_40 rfl rfl ?_
    refine x_lload_n 2 d_X5_join_41 rfl rfl ?_
    refine x_ladd d_X5_join_42 ?_
    refine x_invSN (rest := []) (d' := d - 1) (mc' := 0) (ms' := 0) [.long (x + y)] "LagSolver" k_X9_hold lk_X5_47 rfl rfl (Nat.le_of_ble_eq_true rfl) (by omega) (Nat.le_refl _) (Nat.le_refl _) d_X5_join_43 ((sp_X9_hold (d := d - 1) (by omega) hQ).mono (fun r w2 hr => ?_))
    obtain ⟨r1, rfl, rfl, hQ⟩ := hr
    exact x_iret (retI d_X5_join_46 rfl) ⟨_, rfl, rfl, hQ⟩
  · have hQ := hQ.2 c_1_2
    by_cases c_1_3 : i = (3 : Int32)
    · have hQ := hQ.1 c_1_3
      refine x_tableIn (off := (46 : Int)) (tgt := 47) d_X5_join_1 (by rw [c_1_3]; decide) (by rw [c_1_3]; decide) (by rw [c_1_3]; rfl) (by decide) ?_
      refine x_lload_n 1 d_X5_join_47 rfl rfl ?_
      refine x_lload_n 2 d_X5_join_48 rfl rfl ?_
      refine x_lsub d_X5_join_49 ?_
      refine x_invSN (rest := []) (d' := d - 1) (mc' := 0) (ms' := 0) [.long (x - y)] "LagSolver" k_X9_hold lk_X5_47 rfl rfl (Nat.le_of_ble_eq_true rfl) (by omega) (Nat.le_refl _) (Nat.le_refl _) d_X5_join_50 ((sp_X9_hold (d := d - 1) (by omega) hQ).mono (fun r w2 hr => ?_))
      obtain ⟨r2, rfl, rfl, hQ⟩ := hr
      exact x_iret (retI d_X5_join_53 rfl) ⟨_, rfl, rfl, hQ⟩
    · have hQ := hQ.2 c_1_3
      by_cases c_1_4 : i = (4 : Int32)
      · have hQ := hQ.1 c_1_4
        refine x_tableIn (off := (53 : Int)) (tgt := 54) d_X5_join_1 (by rw [c_1_4]; decide) (by rw [c_1_4]; decide) (by rw [c_1_4]; rfl) (by decide) ?_
        refine x_lload_n 1 d_X5_join_54 rfl rfl ?_
        refine x_lload_n 2 d_X5_join_55 rfl rfl ?_
        refine x_lmul d_X5_join_56 ?_
        refine x_ldc2 (v := (1000 : Int64)) kc_X5_55 d_X5_join_57 ?_
        refine x_ldiv d_X5_join_60 (by decide) ?_
        refine x_invSN (rest := []) (d' := d - 1) (mc' := 0) (ms' := 0) [.long ((x * y) / (1000 : Int64))] "LagSolver" k_X9_hold lk_X5_47 rfl rfl (Nat.le_of_ble_eq_true rfl) (by omega) (Nat.le_refl _) (Nat.le_refl _) d_X5_join_61 ((sp_X9_hold (d := d - 1) (by omega) hQ).mono (fun r w2 hr => ?_))
        obtain ⟨r3, rfl, rfl, hQ⟩ := hr
        exact x_iret (retI d_X5_join_64 rfl) ⟨_, rfl, rfl, hQ⟩
      · have hQ := hQ.2 c_1_4
        by_cases c_1_5 : i = (5 : Int32)
        · have hQ := hQ.1 c_1_5
          refine x_tableIn (off := (64 : Int)) (tgt := 65) d_X5_join_1 (by rw [c_1_5]; decide) (by rw [c_1_5]; decide) (by rw [c_1_5]; rfl) (by decide) ?_
          refine x_lload_n 1 d_X5_join_65 rfl rfl ?_
          refine x_ldc2 (v := (1000 : Int64)) kc_X5_55 d_X5_join_66 ?_
          refine x_lmul d_X5_join_69 ?_
          refine x_lload_n 2 d_X5_join_70 rfl rfl ?_
          refine x_invSN (rest := []) (d' := d - 1) (mc' := 0) (ms' := 0) [.long (x * (1000 : Int64)), .long y] "LagSolver" k_X9_quotient lk_X5_57 rfl rfl (Nat.le_of_ble_eq_true rfl) (by omega) (Nat.le_refl _) (Nat.le_refl _) d_X5_join_71 ((sp_X9_quotient (d := d - 1) (by omega) hQ).mono (fun r w2 hr => ?_))
          obtain ⟨r4, rfl, rfl, hQ⟩ := hr
          refine x_invSN (rest := []) (d' := d - 1) (mc' := 0) (ms' := 0) [.long r4] "LagSolver" k_X9_hold lk_X5_47 rfl rfl (Nat.le_of_ble_eq_true rfl) (by omega) (Nat.le_refl _) (Nat.le_refl _) d_X5_join_74 ((sp_X9_hold (d := d - 1) (by omega) hQ).mono (fun r w2 hr => ?_))
          obtain ⟨r5, rfl, rfl, hQ⟩ := hr
          exact x_iret (retI d_X5_join_77 rfl) ⟨_, rfl, rfl, hQ⟩
        · have hQ := hQ.2 c_1_5
          by_cases c_1_7 : i = (7 : Int32)
          · have hQ := hQ.1 c_1_7
            refine x_tableIn (off := (77 : Int)) (tgt := 78) d_X5_join_1 (by rw [c_1_7]; decide) (by rw [c_1_7]; decide) (by rw [c_1_7]; rfl) (by decide) ?_
            refine x_lload_n 1 d_X5_join_78 rfl rfl ?_
            refine x_lload_n 2 d_X5_join_79 rfl rfl ?_
            refine x_mminL lk_X5_61 jw_minL_s iw_Math jw_minL_c (Nat.le_of_ble_eq_true rfl) (by omega) d_X5_join_80 ?_
            refine x_l2i d_X5_join_83 rfl ?_
            exact x_iret (retI d_X5_join_84 rfl) ⟨_, rfl, rfl, hQ⟩
          · have hQ := hQ.2 c_1_7
            by_cases c_1_d6 : i = (6 : Int32)
            · refine x_tableIn (off := (84 : Int)) (tgt := 85) d_X5_join_1 (by rw [c_1_d6]; decide) (by rw [c_1_d6]; decide) (by rw [c_1_d6]; rfl) (by decide) ?_
              refine x_sub [1, 2] (lv2 := [(1, .long x), (3, .long y)]) rfl ?_
              exact jt_X5_join_85 hd  hQ
            · refine x_tableOut (tgt := 85) d_X5_join_1 (sw_out 2 7 i (fun v h1 h2 => by
                  have h3 : v = 2 ∨ v = 3 ∨ v = 4 ∨ v = 5 ∨ v = 6 ∨ v = 7 := by omega
                  rcases h3 with rfl | rfl | rfl | rfl | rfl | rfl <;> first | exact sw_ne c_1_2 (by decide) | exact sw_ne c_1_3 (by decide) | exact sw_ne c_1_4 (by decide) | exact sw_ne c_1_5 (by decide) | exact sw_ne c_1_7 (by decide) | exact sw_ne c_1_d6 (by decide))) (by decide) ?_
              refine x_sub [1, 2] (lv2 := [(1, .long x), (3, .long y)]) rfl ?_
              exact jt_X5_join_85 hd  hQ
def jp_X5_workOut_87 (s : RT) (i : Int32) (K : Int32 → RT → Prop) (k_21 : Int32 → Int32 → Int32 → RT → Prop) (x_4 : Int32) (x_5 : Int32) (x_6 : Int32) (t_0 : Int32) (t_1 : Int32) (y_0 : RT) : Prop := wp_X9_put 80 (y_0.1 2) t_1 t_0 (fun (f12 : Nat → Int32) => ∀ s13 : RT, s13 = rI y_0 2 f12 → ∀ x14 : Int32, x14 = x_5 + (1 : Int32) → ∀ x15 : Int32, x15 = x_6 + (1 : Int32) → k_21 x_4 x14 x15 s13)
set_option maxHeartbeats 4000000 in
theorem jt_X5_workOut_87 {G : GX} {l : Launch} {d : Nat} {w : HW} {a b : Nat} {s : RT} {i : Int32} {K : Int32 → RT → Prop} {k_21 : Int32 → Int32 → Int32 → RT → Prop} (hd : 2 ≤ d) (hx_0_1 : b + 7 ≤ a ∨ a + 19 ≤ b) (hk_21 : ∀ (x_4 : Int32) (x_5 : Int32) (x_6 : Int32) (y_0 : RT), k_21 x_4 x_5 x_6 y_0 → X G l m_X5_workOut d 0 0 0 0 21 [(0, .ref (a + 1)), (1, .int i), (2, .ref (b + 1)), (3, .ref (b + 2)), (4, .int x_4), (5, .int x_5), (6, .int x_6)] [] (put (put w b 7 (shP b y_0)) a 19 (shS a s)) (fun r w2 => ∃ (r1 : Int32), ∃ (z0 : RT), r = some (.int r1) ∧ w2 = put (put w b 7 (shP b z0)) a 19 (shS a s) ∧ K r1 z0)) (x_4 : Int32) (x_5 : Int32) (x_6 : Int32) (t_0 : Int32) (t_1 : Int32) (y_0 : RT) (hQ : jp_X5_workOut_87 s i K k_21 x_4 x_5 x_6 t_0 t_1 y_0) : X G l m_X5_workOut d 0 0 0 0 87 [(0, .ref (a + 1)), (1, .int i), (2, .ref (b + 1)), (3, .ref (b + 2)), (4, .int x_4), (5, .int x_5), (6, .int x_6)] [.int t_0, .int t_1, .ref (b + 2)] (put (put w b 7 (shP b y_0)) a 19 (shS a s)) (fun r w2 => ∃ (r1 : Int32), ∃ (z0 : RT), r = some (.int r1) ∧ w2 = put (put w b 7 (shP b z0)) a 19 (shS a s) ∧ K r1 z0) := by
  refine x_invSN (rest := []) (d' := d - 1) (mc' := 0) (ms' := 0) [.ref (b + 2), .int t_1, .int t_0] "LagSolver" k_X9_put lk_X5_27 rfl rfl (Nat.le_of_ble_eq_true rfl) (by omega) (Nat.le_refl _) (Nat.le_refl _) d_X5_workOut_87 ((spa_X9_put (d := d - 1) (by omega) (put_out (by omega) gP_2) hQ).mono (fun r w2 hr => ?_))
  obtain ⟨f12, rfl, rfl, hQ⟩ := hr
  obtain ⟨s13, e_s13⟩ : ∃ z : RT, z = rI y_0 2 f12 := ⟨_, rfl⟩
  have hQ := hQ s13 e_s13
  refine X.world (w2 := put (put w b 7 (shP b s13)) a 19 (shS a s)) (by rw [e_s13]; exact (hset_out (by omega) sP_2)) ?_
  obtain ⟨x14, e_x14⟩ : ∃ z : Int32, z = x_5 + (1 : Int32) := ⟨_, rfl⟩
  have hQ := hQ x14 e_x14
  refine x_iinc (v := x14) (lv2 := [(5, .int x14), (0, .ref (a + 1)), (1, .int i), (2, .ref (b + 1)), (3, .ref (b + 2)), (4, .int x_4), (6, .int x_6)]) 5 d_X5_workOut_90 rfl (by rw [e_x14]; rfl) (by decide) rfl ?_
  refine x_goto (tgt := 163) d_X5_workOut_93 (by decide) ?_
  obtain ⟨x15, e_x15⟩ : ∃ z : Int32, z = x_6 + (1 : Int32) := ⟨_, rfl⟩
  have hQ := hQ x15 e_x15
  refine x_iinc (v := x15) (lv2 := [(6, .int x15), (5, .int x14), (0, .ref (a + 1)), (1, .int i), (2, .ref (b + 1)), (3, .ref (b + 2)), (4, .int x_4)]) 6 d_X5_workOut_163 rfl (by rw [e_x15]; rfl) (by decide) rfl ?_
  refine x_goto (tgt := 21) d_X5_workOut_166 (by decide) ?_
  refine x_sub [2, 3, 4, 5, 6, 1, 0] (lv2 := [(0, .ref (a + 1)), (1, .int i), (2, .ref (b + 1)), (3, .ref (b + 2)), (4, .int x_4), (5, .int x14), (6, .int x15)]) rfl ?_
  exact hk_21 x_4 x14 x15 s13 hQ
def jp_X5_workOut_68 (s : RT) (i : Int32) (K : Int32 → RT → Prop) (k_21 : Int32 → Int32 → Int32 → RT → Prop) (x_4 : Int32) (x_5 : Int32) (x_6 : Int32) (x_8 : Int32) (x_9 : Int32) (y_0 : RT) : Prop := ((¬ x_8 = (0 : Int32) → wp_X9_pick 22 (y_0.1 1) x_9 (fun (r11 : Int32) => jp_X5_workOut_87 s i K k_21 x_4 x_5 x_6 r11 x_5 y_0)) ∧ (x_8 = (0 : Int32) → jp_X5_workOut_87 s i K k_21 x_4 x_5 x_6 x_9 x_5 y_0))
set_option maxHeartbeats 4000000 in
theorem jt_X5_workOut_68 {G : GX} {l : Launch} {d : Nat} {w : HW} {a b : Nat} {s : RT} {i : Int32} {K : Int32 → RT → Prop} {k_21 : Int32 → Int32 → Int32 → RT → Prop} (hd : 2 ≤ d) (hx_0_1 : b + 7 ≤ a ∨ a + 19 ≤ b) (hk_21 : ∀ (x_4 : Int32) (x_5 : Int32) (x_6 : Int32) (y_0 : RT), k_21 x_4 x_5 x_6 y_0 → X G l m_X5_workOut d 0 0 0 0 21 [(0, .ref (a + 1)), (1, .int i), (2, .ref (b + 1)), (3, .ref (b + 2)), (4, .int x_4), (5, .int x_5), (6, .int x_6)] [] (put (put w b 7 (shP b y_0)) a 19 (shS a s)) (fun r w2 => ∃ (r1 : Int32), ∃ (z0 : RT), r = some (.int r1) ∧ w2 = put (put w b 7 (shP b z0)) a 19 (shS a s) ∧ K r1 z0)) (x_4 : Int32) (x_5 : Int32) (x_6 : Int32) (x_8 : Int32) (x_9 : Int32) (y_0 : RT) (hQ : jp_X5_workOut_68 s i K k_21 x_4 x_5 x_6 x_8 x_9 y_0) : X G l m_X5_workOut d 0 0 0 0 68 [(0, .ref (a + 1)), (1, .int i), (2, .ref (b + 1)), (3, .ref (b + 2)), (4, .int x_4), (5, .int x_5), (6, .int x_6), (8, .int x_8), (9, .int x_9)] [] (put (put w b 7 (shP b y_0)) a 19 (shS a s)) (fun r w2 => ∃ (r1 : Int32), ∃ (z0 : RT), r = some (.int r1) ∧ w2 = put (put w b 7 (shP b z0)) a 19 (shS a s) ∧ K r1 z0) := by
  refine x_aload_n 3 d_X5_workOut_68 rfl rfl ?_
  refine x_iload 5 d_X5_workOut_69 rfl ?_
  refine x_iload 7 d_X5_workOut_71 rfl ?_
  refine x_if_ne (tgt := 81) d_X5_workOut_73 (by decide) (fun c_73_10 => ?_) (fun c_73_10 => ?_)
  · have hQ := hQ.1 c_73_10
    refine x_aload_n 2 d_X5_workOut_81 rfl rfl ?_
    refine x_iload 8 d_X5_workOut_82 rfl ?_
    refine x_invSN (rest := [.int x_5, .ref (b + 2)]) (d' := d - 1) (mc' := 0) (ms' := 0) [.ref (b + 1), .int x_9] "LagSolver" k_X9_pick lk_X5_37 rfl rfl (Nat.le_of_ble_eq_true rfl) (by omega) (Nat.le_refl _) (Nat.le_refl _) d_X5_workOut_84 ((sp_X9_pick (d := d - 1) (by omega) (put_out (by omega) gP_1) hQ).mono (fun r w2 hr => ?_))
    obtain ⟨r11, rfl, rfl, hQ⟩ := hr
    refine x_sub [0, 1, 2, 3, 4, 5, 6] (lv2 := [(0, .ref (a + 1)), (1, .int i), (2, .ref (b + 1)), (3, .ref (b + 2)), (4, .int x_4), (5, .int x_5), (6, .int x_6)]) rfl ?_
    exact jt_X5_workOut_87 hd hx_0_1 hk_21 x_4 x_5 x_6 r11 x_5 y_0 hQ
  · have hQ := hQ.2 c_73_10
    refine x_iload 8 d_X5_workOut_76 rfl ?_
    refine x_goto (tgt := 87) d_X5_workOut_78 (by decide) ?_
    refine x_sub [0, 1, 2, 3, 4, 5, 6] (lv2 := [(0, .ref (a + 1)), (1, .int i), (2, .ref (b + 1)), (3, .ref (b + 2)), (4, .int x_4), (5, .int x_5), (6, .int x_6)]) rfl ?_
    exact jt_X5_workOut_87 hd hx_0_1 hk_21 x_4 x_5 x_6 x_9 x_5 y_0 hQ
def lp_X5_workOut_21 (s : RT) (i : Int32) (K : Int32 → RT → Prop) : Nat → Int32 → Int32 → Int32 → RT → Prop
  | 0, _, _, _, _ => False
  | n + 1, x_4, x_5, x_6, y_0 => ((x_4 ≤ x_6 → ((¬ x_5 = (1 : Int32) → K (0 : Int32) y_0) ∧ (x_5 = (1 : Int32) → wp_X9_pick 80 (y_0.1 2) (0 : Int32) (fun (r5 : Int32) => K r5 y_0)))) ∧ (¬ x_4 ≤ x_6 → wp_X9_pick 240 (s.1 2) ((i * (80 : Int32)) + x_6) (fun (r6 : Int32) => ∀ x7 : Int32, x7 = r6 &&& (15 : Int32) → ∀ x8 : Int32, x8 = r6 >>> ((4 : Int32) &&& 31) → ((x7 = (0 : Int32) → jp_X5_workOut_68 s i K (fun v0 v1 v2 v3 => lp_X5_workOut_21 s i K n v0 v1 v2 v3) x_4 x_5 x_6 x7 x8 y_0) ∧ (¬ x7 = (0 : Int32) → ((¬ x7 = (1 : Int32) → ((¬ x7 = (6 : Int32) → ∀ x18 : Int32, x18 = x_5 + (-1 : Int32) → wp_X9_pick 80 (y_0.1 2) (x18 - (1 : Int32)) (fun (r19 : Int32) => wp_X9_pick 80 (y_0.1 2) x18 (fun (r20 : Int32) => wp_X5_join x7 (r19.toInt64) (r20.toInt64) (fun (r21 : Int32) => wp_X9_put 80 (y_0.1 2) (x18 - (1 : Int32)) r21 (fun (f22 : Nat → Int32) => ∀ s23 : RT, s23 = rI y_0 2 f22 → ∀ x24 : Int32, x24 = x_6 + (1 : Int32) → lp_X5_workOut_21 s i K n x_4 x18 x24 s23))))) ∧ (x7 = (6 : Int32) → wp_X9_pick 80 (y_0.1 2) (x_5 - (1 : Int32)) (fun (r25 : Int32) => wp_X9_hold (-(r25.toInt64)) (fun (r26 : Int32) => wp_X9_put 80 (y_0.1 2) (x_5 - (1 : Int32)) r26 (fun (f27 : Nat → Int32) => ∀ s28 : RT, s28 = rI y_0 2 f27 → ∀ x29 : Int32, x29 = x_6 + (1 : Int32) → lp_X5_workOut_21 s i K n x_4 x_5 x29 s28)))))) ∧ (x7 = (1 : Int32) → jp_X5_workOut_68 s i K (fun v0 v1 v2 v3 => lp_X5_workOut_21 s i K n v0 v1 v2 v3) x_4 x_5 x_6 x7 x8 y_0)))))))
set_option maxHeartbeats 4000000 in
theorem jt_X5_workOut_21 {G : GX} {l : Launch} {d : Nat} {w : HW} {a b : Nat} {s : RT} {i : Int32} {K : Int32 → RT → Prop} (hd : 2 ≤ d) (hx_0_1 : b + 7 ≤ a ∨ a + 19 ≤ b) : ∀ (n : Nat) (x_4 : Int32) (x_5 : Int32) (x_6 : Int32) (y_0 : RT), lp_X5_workOut_21 s i K n x_4 x_5 x_6 y_0 → X G l m_X5_workOut d 0 0 0 0 21 [(0, .ref (a + 1)), (1, .int i), (2, .ref (b + 1)), (3, .ref (b + 2)), (4, .int x_4), (5, .int x_5), (6, .int x_6)] [] (put (put w b 7 (shP b y_0)) a 19 (shS a s)) (fun r w2 => ∃ (r1 : Int32), ∃ (z0 : RT), r = some (.int r1) ∧ w2 = put (put w b 7 (shP b z0)) a 19 (shS a s) ∧ K r1 z0) := by
  intro n
  induction n with
  | zero =>
    intro x_4 x_5 x_6 y_0 hQ
    exact hQ.elim
  | succ n ih =>
    intro x_4 x_5 x_6 y_0 hQ
    refine x_iload 6 d_X5_workOut_21 rfl ?_
    refine x_iload 4 d_X5_workOut_23 rfl ?_
    refine x_icmp_ge (tgt := 169) d_X5_workOut_25 (by decide) (fun c_25_3 => ?_) (fun c_25_3 => ?_)
    · have hQ := hQ.1 c_25_3
      refine x_iload 5 d_X5_workOut_169 rfl ?_
      refine x_iconst (v := (1 : Int32)) d_X5_workOut_171 (by decide) ?_
      refine x_icmp_ne (tgt := 183) d_X5_workOut_172 (by decide) (fun c_172_4 => ?_) (fun c_172_4 => ?_)
      · have hQ := hQ.1 c_172_4
        refine x_iconst (v := (0 : Int32)) d_X5_workOut_183 (by decide) ?_
        exact x_iret (retI d_X5_workOut_184 rfl) ⟨_, _, rfl, rfl, hQ⟩
      · have hQ := hQ.2 c_172_4
        refine x_aload_n 3 d_X5_workOut_175 rfl rfl ?_
        refine x_iconst (v := (0 : Int32)) d_X5_workOut_176 (by decide) ?_
        refine x_invSN (rest := []) (d' := d - 1) (mc' := 0) (ms' := 0) [.ref (b + 2), .int (0 : Int32)] "LagSolver" k_X9_pick lk_X5_37 rfl rfl (Nat.le_of_ble_eq_true rfl) (by omega) (Nat.le_refl _) (Nat.le_refl _) d_X5_workOut_177 ((sp_X9_pick (d := d - 1) (by omega) (put_out (by omega) gP_2) hQ).mono (fun r w2 hr => ?_))
        obtain ⟨r5, rfl, rfl, hQ⟩ := hr
        refine x_goto (tgt := 184) d_X5_workOut_180 (by decide) ?_
        exact x_iret (retI d_X5_workOut_184 rfl) ⟨_, _, rfl, rfl, hQ⟩
    · have hQ := hQ.2 c_25_3
      refine x_aload_n 0 d_X5_workOut_28 rfl rfl ?_
      refine x_getf 0 gf_X5_9 gS_1 rfl d_X5_workOut_29 ?_
      refine x_iload_n 1 d_X5_workOut_32 rfl rfl ?_
      refine x_bipush (v := (80 : Int32)) d_X5_workOut_33 (by decide) ?_
      refine x_imul d_X5_workOut_35 ?_
      refine x_iload 6 d_X5_workOut_36 rfl ?_
      refine x_iadd d_X5_workOut_38 ?_
      refine x_invSN (rest := []) (d' := d - 1) (mc' := 0) (ms' := 0) [.ref (a + 2), .int ((i * (80 : Int32)) + x_6)] "LagSolver" k_X9_pick lk_X5_37 rfl rfl (Nat.le_of_ble_eq_true rfl) (by omega) (Nat.le_refl _) (Nat.le_refl _) d_X5_workOut_39 ((sp_X9_pick (d := d - 1) (by omega) gS_2 hQ).mono (fun r w2 hr => ?_))
      obtain ⟨r6, rfl, rfl, hQ⟩ := hr
      refine x_istore (lv2 := [(7, .int r6), (0, .ref (a + 1)), (1, .int i), (2, .ref (b + 1)), (3, .ref (b + 2)), (4, .int x_4), (5, .int x_5), (6, .int x_6)]) d_X5_workOut_42 (by decide) rfl ?_
      refine x_iload 0 d_X5_workOut_44 rfl ?_
      refine x_bipush (v := (15 : Int32)) d_X5_workOut_46 (by decide) ?_
      refine x_iand d_X5_workOut_48 ?_
      refine x_topi (fun x7 e_x7 => ?_)
      have hQ := hQ x7 e_x7
      refine x_istore (lv2 := [(8, .int x7), (7, .int r6), (0, .ref (a + 1)), (1, .int i), (2, .ref (b + 1)), (3, .ref (b + 2)), (4, .int x_4), (5, .int x_5), (6, .int x_6)]) d_X5_workOut_49 (by decide) rfl ?_
      refine x_iload 1 d_X5_workOut_51 rfl ?_
      refine x_iconst (v := (4 : Int32)) d_X5_workOut_53 (by decide) ?_
      refine x_ishr d_X5_workOut_54 ?_
      refine x_topi (fun x8 e_x8 => ?_)
      have hQ := hQ x8 e_x8
      refine x_istore (lv2 := [(9, .int x8), (8, .int x7), (7, .int r6), (0, .ref (a + 1)), (1, .int i), (2, .ref (b + 1)), (3, .ref (b + 2)), (4, .int x_4), (5, .int x_5), (6, .int x_6)]) d_X5_workOut_55 (by decide) rfl ?_
      refine x_iload 1 d_X5_workOut_57 rfl ?_
      refine x_if_eq (tgt := 68) d_X5_workOut_59 (by decide) (fun c_59_9 => ?_) (fun c_59_9 => ?_)
      · have hQ := hQ.1 c_59_9
        refine x_sub [3, 4, 5, 6, 7, 8, 9, 1, 0] (lv2 := [(0, .ref (a + 1)), (1, .int i), (2, .ref (b + 1)), (3, .ref (b + 2)), (4, .int x_4), (5, .int x_5), (6, .int x_6), (8, .int x7), (9, .int x8)]) rfl ?_
        exact jt_X5_workOut_68 hd hx_0_1 ih x_4 x_5 x_6 x7 x8 y_0 hQ
      · have hQ := hQ.2 c_59_9
        refine x_iload 1 d_X5_workOut_62 rfl ?_
        refine x_iconst (v := (1 : Int32)) d_X5_workOut_64 (by decide) ?_
        refine x_icmp_ne (tgt := 96) d_X5_workOut_65 (by decide) (fun c_65_16 => ?_) (fun c_65_16 => ?_)
        · have hQ := hQ.1 c_65_16
          refine x_iload 1 d_X5_workOut_96 rfl ?_
          refine x_bipush (v := (6 : Int32)) d_X5_workOut_98 (by decide) ?_
          refine x_icmp_ne (tgt := 127) d_X5_workOut_100 (by decide) (fun c_100_17 => ?_) (fun c_100_17 => ?_)
          · have hQ := hQ.1 c_100_17
            obtain ⟨x18, e_x18⟩ : ∃ z : Int32, z = x_5 + (-1 : Int32) := ⟨_, rfl⟩
            have hQ := hQ x18 e_x18
            refine x_iinc (v := x18) (lv2 := [(5, .int x18), (9, .int x8), (8, .int x7), (7, .int r6), (0, .ref (a + 1)), (1, .int i), (2, .ref (b + 1)), (3, .ref (b + 2)), (4, .int x_4), (6, .int x_6)]) 8 d_X5_workOut_127 rfl (by rw [e_x18]; rfl) (by decide) rfl ?_
            refine x_iload 2 d_X5_workOut_130 rfl ?_
            refine x_aload_n 7 d_X5_workOut_132 rfl rfl ?_
            refine x_iload 0 d_X5_workOut_133 rfl ?_
            refine x_iconst (v := (1 : Int32)) d_X5_workOut_135 (by decide) ?_
            refine x_isub d_X5_workOut_136 ?_
            refine x_invSN (rest := [.int x7]) (d' := d - 1) (mc' := 0) (ms' := 0) [.ref (b + 2), .int (x18 - (1 : Int32))] "LagSolver" k_X9_pick lk_X5_37 rfl rfl (Nat.le_of_ble_eq_true rfl) (by omega) (Nat.le_refl _) (Nat.le_refl _) d_X5_workOut_137 ((sp_X9_pick (d := d - 1) (by omega) (put_out (by omega) gP_2) hQ).mono (fun r w2 hr => ?_))
            obtain ⟨r19, rfl, rfl, hQ⟩ := hr
            refine x_i2l d_X5_workOut_140 rfl ?_
            refine x_aload_n 7 d_X5_workOut_141 rfl rfl ?_
            refine x_iload 0 d_X5_workOut_142 rfl ?_
            refine x_invSN (rest := [.long (r19.toInt64), .int x7]) (d' := d - 1) (mc' := 0) (ms' := 0) [.ref (b + 2), .int x18] "LagSolver" k_X9_pick lk_X5_37 rfl rfl (Nat.le_of_ble_eq_true rfl) (by omega) (Nat.le_refl _) (Nat.le_refl _) d_X5_workOut_144 ((sp_X9_pick (d := d - 1) (by omega) (put_out (by omega) gP_2) hQ).mono (fun r w2 hr => ?_))
            obtain ⟨r20, rfl, rfl, hQ⟩ := hr
            refine x_i2l d_X5_workOut_147 rfl ?_
            refine x_invS (rest := []) (d' := d - 1) (mc' := 0) (ms' := 0) [.int x7, .long (r19.toInt64), .long (r20.toInt64)] k_X5_join lk_X5_51 rfl rfl (Nat.le_of_ble_eq_true rfl) (by omega) (Nat.le_refl _) (Nat.le_refl _) d_X5_workOut_148 ((sp_X5_join (d := d - 1) (by omega) hQ).mono (fun r w2 hr => ?_))
            obtain ⟨r21, rfl, rfl, hQ⟩ := hr
            refine x_istore (lv2 := [(10, .int r21), (5, .int x18), (9, .int x8), (8, .int x7), (7, .int r6), (0, .ref (a + 1)), (1, .int i), (2, .ref (b + 1)), (3, .ref (b + 2)), (4, .int x_4), (6, .int x_6)]) d_X5_workOut_151 (by decide) rfl ?_
            refine x_aload_n 8 d_X5_workOut_153 rfl rfl ?_
            refine x_iload 1 d_X5_workOut_154 rfl ?_
            refine x_iconst (v := (1 : Int32)) d_X5_workOut_156 (by decide) ?_
            refine x_isub d_X5_workOut_157 ?_
            refine x_iload 0 d_X5_workOut_158 rfl ?_
            refine x_invSN (rest := []) (d' := d - 1) (mc' := 0) (ms' := 0) [.ref (b + 2), .int (x18 - (1 : Int32)), .int r21] "LagSolver" k_X9_put lk_X5_27 rfl rfl (Nat.le_of_ble_eq_true rfl) (by omega) (Nat.le_refl _) (Nat.le_refl _) d_X5_workOut_160 ((spa_X9_put (d := d - 1) (by omega) (put_out (by omega) gP_2) hQ).mono (fun r w2 hr => ?_))
            obtain ⟨f22, rfl, rfl, hQ⟩ := hr
            obtain ⟨s23, e_s23⟩ : ∃ z : RT, z = rI y_0 2 f22 := ⟨_, rfl⟩
            have hQ := hQ s23 e_s23
            refine X.world (w2 := put (put w b 7 (shP b s23)) a 19 (shS a s)) (by rw [e_s23]; exact (hset_out (by omega) sP_2)) ?_
            obtain ⟨x24, e_x24⟩ : ∃ z : Int32, z = x_6 + (1 : Int32) := ⟨_, rfl⟩
            have hQ := hQ x24 e_x24
            refine x_iinc (v := x24) (lv2 := [(6, .int x24), (10, .int r21), (5, .int x18), (9, .int x8), (8, .int x7), (7, .int r6), (0, .ref (a + 1)), (1, .int i), (2, .ref (b + 1)), (3, .ref (b + 2)), (4, .int x_4)]) 10 d_X5_workOut_163 rfl (by rw [e_x24]; rfl) (by decide) rfl ?_
            refine x_goto (tgt := 21) d_X5_workOut_166 (by decide) ?_
            refine x_sub [6, 7, 8, 9, 10, 2, 0] (lv2 := [(0, .ref (a + 1)), (1, .int i), (2, .ref (b + 1)), (3, .ref (b + 2)), (4, .int x_4), (5, .int x18), (6, .int x24)]) rfl ?_
            exact ih x_4 x18 x24 s23 hQ
          · have hQ := hQ.2 c_100_17
            refine x_aload_n 6 d_X5_workOut_103 rfl rfl ?_
            refine x_iload 8 d_X5_workOut_104 rfl ?_
            refine x_iconst (v := (1 : Int32)) d_X5_workOut_106 (by decide) ?_
            refine x_isub d_X5_workOut_107 ?_
            refine x_aload_n 6 d_X5_workOut_108 rfl rfl ?_
            refine x_iload 8 d_X5_workOut_109 rfl ?_
            refine x_iconst (v := (1 : Int32)) d_X5_workOut_111 (by decide) ?_
            refine x_isub d_X5_workOut_112 ?_
            refine x_invSN (rest := [.int (x_5 - (1 : Int32)), .ref (b + 2)]) (d' := d - 1) (mc' := 0) (ms' := 0) [.ref (b + 2), .int (x_5 - (1 : Int32))] "LagSolver" k_X9_pick lk_X5_37 rfl rfl (Nat.le_of_ble_eq_true rfl) (by omega) (Nat.le_refl _) (Nat.le_refl _) d_X5_workOut_113 ((sp_X9_pick (d := d - 1) (by omega) (put_out (by omega) gP_2) hQ).mono (fun r w2 hr => ?_))
            obtain ⟨r25, rfl, rfl, hQ⟩ := hr
            refine x_i2l d_X5_workOut_116 rfl ?_
            refine x_lneg d_X5_workOut_117 ?_
            refine x_invSN (rest := [.int (x_5 - (1 : Int32)), .ref (b + 2)]) (d' := d - 1) (mc' := 0) (ms' := 0) [.long (-(r25.toInt64))] "LagSolver" k_X9_hold lk_X5_47 rfl rfl (Nat.le_of_ble_eq_true rfl) (by omega) (Nat.le_refl _) (Nat.le_refl _) d_X5_workOut_118 ((sp_X9_hold (d := d - 1) (by omega) hQ).mono (fun r w2 hr => ?_))
            obtain ⟨r26, rfl, rfl, hQ⟩ := hr
            refine x_invSN (rest := []) (d' := d - 1) (mc' := 0) (ms' := 0) [.ref (b + 2), .int (x_5 - (1 : Int32)), .int r26] "LagSolver" k_X9_put lk_X5_27 rfl rfl (Nat.le_of_ble_eq_true rfl) (by omega) (Nat.le_refl _) (Nat.le_refl _) d_X5_workOut_121 ((spa_X9_put (d := d - 1) (by omega) (put_out (by omega) gP_2) hQ).mono (fun r w2 hr => ?_))
            obtain ⟨f27, rfl, rfl, hQ⟩ := hr
            obtain ⟨s28, e_s28⟩ : ∃ z : RT, z = rI y_0 2 f27 := ⟨_, rfl⟩
            have hQ := hQ s28 e_s28
            refine X.world (w2 := put (put w b 7 (shP b s28)) a 19 (shS a s)) (by rw [e_s28]; exact (hset_out (by omega) sP_2)) ?_
            refine x_goto (tgt := 163) d_X5_workOut_124 (by decide) ?_
            obtain ⟨x29, e_x29⟩ : ∃ z : Int32, z = x_6 + (1 : Int32) := ⟨_, rfl⟩
            have hQ := hQ x29 e_x29
            refine x_iinc (v := x29) (lv2 := [(6, .int x29), (9, .int x8), (8, .int x7), (7, .int r6), (0, .ref (a + 1)), (1, .int i), (2, .ref (b + 1)), (3, .ref (b + 2)), (4, .int x_4), (5, .int x_5)]) 9 d_X5_workOut_163 rfl (by rw [e_x29]; rfl) (by decide) rfl ?_
            refine x_goto (tgt := 21) d_X5_workOut_166 (by decide) ?_
            refine x_sub [4, 5, 6, 7, 8, 9, 0] (lv2 := [(0, .ref (a + 1)), (1, .int i), (2, .ref (b + 1)), (3, .ref (b + 2)), (4, .int x_4), (5, .int x_5), (6, .int x29)]) rfl ?_
            exact ih x_4 x_5 x29 s28 hQ
        · have hQ := hQ.2 c_65_16
          refine x_sub [3, 4, 5, 6, 7, 8, 9, 1, 0] (lv2 := [(0, .ref (a + 1)), (1, .int i), (2, .ref (b + 1)), (3, .ref (b + 2)), (4, .int x_4), (5, .int x_5), (6, .int x_6), (8, .int x7), (9, .int x8)]) rfl ?_
          exact jt_X5_workOut_68 hd hx_0_1 ih x_4 x_5 x_6 x7 x8 y_0 hQ
def wp_X5_workOut (p : RT) (s : RT) (i : Int32) (K : Int32 → RT → Prop) : Prop := wp_X9_pick 3 (s.1 3) i (fun (r1 : Int32) => ∀ x2 : Int32, x2 = (if r1 < (80 : Int32) then r1 else (80 : Int32)) → ∃ m : Nat, lp_X5_workOut_21 s i K m x2 (0 : Int32) (0 : Int32) p)
set_option maxHeartbeats 4000000 in
theorem sp_X5_workOut {G : GX} {l : Launch} {d : Nat} {w : HW} {a b : Nat} {p : RT} {s : RT} {i : Int32} {K : Int32 → RT → Prop} (hd : 2 ≤ d) (hx_0_1 : b + 7 ≤ a ∨ a + 19 ≤ b) (hQ : wp_X5_workOut p s i K) : Sp G l m_X5_workOut d 0 0 [.ref (a + 1), .int i, .ref (b + 1), .ref (b + 2)] (put (put w b 7 (shP b p)) a 19 (shS a s)) (fun r w2 => ∃ (r1 : Int32), ∃ (z0 : RT), r = some (.int r1) ∧ w2 = put (put w b 7 (shP b z0)) a 19 (shS a s) ∧ K r1 z0) := by
  refine Sp.ofX k_X5_workOut.1.1 (Nat.le_of_ble_eq_true rfl) ?_
  refine X.lv (lv2 := [(0, .ref (a + 1)), (1, .int i), (2, .ref (b + 1)), (3, .ref (b + 2))]) rfl ?_
  refine x_bipush (v := (80 : Int32)) d_X5_workOut_0 (by decide) ?_
  refine x_aload_n 0 d_X5_workOut_2 rfl rfl ?_
  refine x_getf 1 gf_X5_15 gS_1 rfl d_X5_workOut_3 ?_
  refine x_iload_n 1 d_X5_workOut_6 rfl rfl ?_
  refine x_invSN (rest := [.int (80 : Int32)]) (d' := d - 1) (mc' := 0) (ms' := 0) [.ref (a + 3), .int i] "LagSolver" k_X9_pick lk_X5_37 rfl rfl (Nat.le_of_ble_eq_true rfl) (by omega) (Nat.le_refl _) (Nat.le_refl _) d_X5_workOut_7 ((sp_X9_pick (d := d - 1) (by omega) gS_3 hQ).mono (fun r w2 hr => ?_))
  obtain ⟨r1, rfl, rfl, hQ⟩ := hr
  refine x_mmin lk_X5_41 jw_min_s iw_Math jw_min_c (Nat.le_of_ble_eq_true rfl) (by omega) d_X5_workOut_10 ?_
  refine x_topi (fun x2 e_x2 => ?_)
  have hQ := hQ x2 e_x2
  refine x_istore (lv2 := [(4, .int x2), (0, .ref (a + 1)), (1, .int i), (2, .ref (b + 1)), (3, .ref (b + 2))]) d_X5_workOut_13 (by decide) rfl ?_
  refine x_iconst (v := (0 : Int32)) d_X5_workOut_15 (by decide) ?_
  refine x_istore (lv2 := [(5, .int (0 : Int32)), (4, .int x2), (0, .ref (a + 1)), (1, .int i), (2, .ref (b + 1)), (3, .ref (b + 2))]) d_X5_workOut_16 (by decide) rfl ?_
  refine x_iconst (v := (0 : Int32)) d_X5_workOut_18 (by decide) ?_
  refine x_istore (lv2 := [(6, .int (0 : Int32)), (5, .int (0 : Int32)), (4, .int x2), (0, .ref (a + 1)), (1, .int i), (2, .ref (b + 1)), (3, .ref (b + 2))]) d_X5_workOut_19 (by decide) rfl ?_
  refine x_sub [3, 4, 5, 6, 2, 1, 0] (lv2 := [(0, .ref (a + 1)), (1, .int i), (2, .ref (b + 1)), (3, .ref (b + 2)), (4, .int x2), (5, .int (0 : Int32)), (6, .int (0 : Int32))]) rfl ?_
  obtain ⟨m, hQ⟩ := hQ
  exact jt_X5_workOut_21 hd hx_0_1 m x2 (0 : Int32) (0 : Int32) p hQ
def wp_X6_restart (s : RT) (K : RT → Prop) : Prop := wp_X5_allOperands s (fun (r1 : Int32) => wp_X9_delaysIn r1 (fun (r2 : Int32) => wp_X9_pick 3 (s.1 12) (2 : Int32) (fun (r3 : Int32) => wp_X0_find s r2 r3 (fun (s4 : RT) => wp_X4_restart s4 (fun (s5 : RT) => K s5)))))
set_option maxHeartbeats 4000000 in
theorem sp_X6_restart {G : GX} {l : Launch} {d : Nat} {w : HW} {a : Nat} {s : RT} {K : RT → Prop} (hd : 5 ≤ d) (hQ : wp_X6_restart s K) : Sp G l m_X6_restart d 0 0 [.ref a] (put w a 19 (shS a s)) (fun r w2 => ∃ (z0 : RT), r = none ∧ w2 = put w a 19 (shS a z0) ∧ K z0) := by
  refine Sp.ofX k_X6_restart.1.1 (Nat.le_of_ble_eq_true rfl) ?_
  refine X.lv (lv2 := [(0, .ref a)]) rfl ?_
  refine x_aload_n 0 d_X6_restart_0 rfl rfl ?_
  refine x_getf 4 gf_X6_39 gS_0 rfl d_X6_restart_1 ?_
  refine x_aload_n 0 d_X6_restart_4 rfl rfl ?_
  refine x_getf 1 gf_X6_21 gS_0 rfl d_X6_restart_5 ?_
  refine x_aload_n 0 d_X6_restart_8 rfl rfl ?_
  refine x_getf 0 gf_X6_12 gS_0 rfl d_X6_restart_9 ?_
  refine x_invV (rest := [.ref (a + 5), .ref (a + 13)]) (d' := d - 1) (mc' := 0) (ms' := 0) [] k_X5_allOperands lk_X6_50 gS_1 rfl rfl rfl (Nat.le_of_ble_eq_true rfl) (by omega) (Nat.le_refl _) (Nat.le_refl _) d_X6_restart_12 ((sp_X5_allOperands (d := d - 1) (by omega) hQ).mono (fun r w2 hr => ?_))
  obtain ⟨r1, rfl, rfl, hQ⟩ := hr
  refine x_invSN (rest := [.ref (a + 5), .ref (a + 13)]) (d' := d - 1) (mc' := 0) (ms' := 0) [.int r1] "LagSolver" k_X9_delaysIn lk_X6_54 rfl rfl (Nat.le_of_ble_eq_true rfl) (by omega) (Nat.le_refl _) (Nat.le_refl _) d_X6_restart_15 ((sp_X9_delaysIn (d := d - 1) (by omega) hQ).mono (fun r w2 hr => ?_))
  obtain ⟨r2, rfl, rfl, hQ⟩ := hr
  refine x_aload_n 0 d_X6_restart_18 rfl rfl ?_
  refine x_getf 3 gf_X6_32 gS_0 rfl d_X6_restart_19 ?_
  refine x_iconst (v := (2 : Int32)) d_X6_restart_22 (by decide) ?_
  refine x_invSN (rest := [.int r2, .ref (a + 5), .ref (a + 13)]) (d' := d - 1) (mc' := 0) (ms' := 0) [.ref (a + 12), .int (2 : Int32)] "LagSolver" k_X9_pick lk_X6_58 rfl rfl (Nat.le_of_ble_eq_true rfl) (by omega) (Nat.le_refl _) (Nat.le_refl _) d_X6_restart_23 ((sp_X9_pick (d := d - 1) (by omega) gS_12 hQ).mono (fun r w2 hr => ?_))
  obtain ⟨r3, rfl, rfl, hQ⟩ := hr
  refine x_invV (rest := []) (d' := d - 1) (mc' := 0) (ms' := 0) [.ref (a + 5), .int r2, .int r3] k_X0_find lk_X6_62 gS_13 rfl rfl rfl (Nat.le_of_ble_eq_true rfl) (by omega) (Nat.le_refl _) (Nat.le_refl _) d_X6_restart_26 ((sp_X0_find (d := d - 1) (by omega) hQ).mono (fun r w2 hr => ?_))
  obtain ⟨s4, rfl, rfl, hQ⟩ := hr
  refine x_aload_n 0 d_X6_restart_29 rfl rfl ?_
  refine x_getf 5 gf_X6_46 gS_0 rfl d_X6_restart_30 ?_
  refine x_aload_n 0 d_X6_restart_33 rfl rfl ?_
  refine x_getf 2 gf_X6_28 gS_0 rfl d_X6_restart_34 ?_
  refine x_invV (rest := []) (d' := d - 1) (mc' := 0) (ms' := 0) [.ref (a + 8)] k_X4_restart lk_X6_66 gS_17 rfl rfl rfl (Nat.le_of_ble_eq_true rfl) (by omega) (Nat.le_refl _) (Nat.le_refl _) d_X6_restart_37 ((sp_X4_restart (d := d - 1) (by omega) hQ).mono (fun r w2 hr => ?_))
  obtain ⟨s5, rfl, rfl, hQ⟩ := hr
  exact x_vret (retV d_X6_restart_40 rfl) ⟨_, rfl, rfl, hQ⟩
def wp_X6_valueIn (s : RT) (i : Int32) (j : Int32) (u : Int32) (K : Int32 → Prop) : Prop := (((0 : Int32) < u → wp_X4_valueIn s i j u (fun (r2 : Int32) => K r2)) ∧ (¬ (0 : Int32) < u → wp_X1_valueAt s j u (fun (r3 : Int32) => K r3)))
set_option maxHeartbeats 4000000 in
theorem sp_X6_valueIn {G : GX} {l : Launch} {d : Nat} {w : HW} {a : Nat} {s : RT} {i : Int32} {j : Int32} {u : Int32} {K : Int32 → Prop} (hd : 3 ≤ d) (hQ : wp_X6_valueIn s i j u K) : Sp G l m_X6_valueIn d 0 0 [.ref a, .int i, .int j, .int u] (put w a 19 (shS a s)) (fun r w2 => ∃ (r1 : Int32), r = some (.int r1) ∧ w2 = put w a 19 (shS a s) ∧ K r1) := by
  refine Sp.ofX k_X6_valueIn.1.1 (Nat.le_of_ble_eq_true rfl) ?_
  refine X.lv (lv2 := [(0, .ref a), (1, .int i), (2, .int j), (3, .int u)]) rfl ?_
  refine x_iload_n 3 d_X6_valueIn_0 rfl rfl ?_
  refine x_if_gt (tgt := 16) d_X6_valueIn_1 (by decide) (fun c_1_1 => ?_) (fun c_1_1 => ?_)
  · have hQ := hQ.1 c_1_1
    refine x_aload_n 0 d_X6_valueIn_16 rfl rfl ?_
    refine x_getf 5 gf_X6_46 gS_0 rfl d_X6_valueIn_17 ?_
    refine x_iload_n 1 d_X6_valueIn_20 rfl rfl ?_
    refine x_iload_n 2 d_X6_valueIn_21 rfl rfl ?_
    refine x_iload_n 3 d_X6_valueIn_22 rfl rfl ?_
    refine x_invV (rest := []) (d' := d - 1) (mc' := 0) (ms' := 0) [.int i, .int j, .int u] k_X4_valueIn lk_X6_74 gS_17 rfl rfl rfl (Nat.le_of_ble_eq_true rfl) (by omega) (Nat.le_refl _) (Nat.le_refl _) d_X6_valueIn_23 ((sp_X4_valueIn (d := d - 1) (by omega) hQ).mono (fun r w2 hr => ?_))
    obtain ⟨r2, rfl, rfl, hQ⟩ := hr
    exact x_iret (retI d_X6_valueIn_26 rfl) ⟨_, rfl, rfl, hQ⟩
  · have hQ := hQ.2 c_1_1
    refine x_aload_n 0 d_X6_valueIn_4 rfl rfl ?_
    refine x_getf 2 gf_X6_28 gS_0 rfl d_X6_valueIn_5 ?_
    refine x_iload_n 2 d_X6_valueIn_8 rfl rfl ?_
    refine x_iload_n 3 d_X6_valueIn_9 rfl rfl ?_
    refine x_invV (rest := []) (d' := d - 1) (mc' := 0) (ms' := 0) [.int j, .int u] k_X1_valueAt lk_X6_70 gS_8 rfl rfl rfl (Nat.le_of_ble_eq_true rfl) (by omega) (Nat.le_refl _) (Nat.le_refl _) d_X6_valueIn_10 ((sp_X1_valueAt (d := d - 1) (by omega) hQ).mono (fun r w2 hr => ?_))
    obtain ⟨r3, rfl, rfl, hQ⟩ := hr
    refine x_goto (tgt := 26) d_X6_valueIn_13 (by decide) ?_
    exact x_iret (retI d_X6_valueIn_26 rfl) ⟨_, rfl, rfl, hQ⟩
def wp_X6_slopeIn (s : RT) (i : Int32) (j : Int32) (u : Int32) (K : Int32 → Prop) : Prop := (((0 : Int32) < u → wp_X4_slopeIn s i j u (fun (r2 : Int32) => K r2)) ∧ (¬ (0 : Int32) < u → wp_X1_slopeAt s j u (fun (r3 : Int32) => K r3)))
set_option maxHeartbeats 4000000 in
theorem sp_X6_slopeIn {G : GX} {l : Launch} {d : Nat} {w : HW} {a : Nat} {s : RT} {i : Int32} {j : Int32} {u : Int32} {K : Int32 → Prop} (hd : 3 ≤ d) (hQ : wp_X6_slopeIn s i j u K) : Sp G l m_X6_slopeIn d 0 0 [.ref a, .int i, .int j, .int u] (put w a 19 (shS a s)) (fun r w2 => ∃ (r1 : Int32), r = some (.int r1) ∧ w2 = put w a 19 (shS a s) ∧ K r1) := by
  refine Sp.ofX k_X6_slopeIn.1.1 (Nat.le_of_ble_eq_true rfl) ?_
  refine X.lv (lv2 := [(0, .ref a), (1, .int i), (2, .int j), (3, .int u)]) rfl ?_
  refine x_iload_n 3 d_X6_slopeIn_0 rfl rfl ?_
  refine x_if_gt (tgt := 16) d_X6_slopeIn_1 (by decide) (fun c_1_1 => ?_) (fun c_1_1 => ?_)
  · have hQ := hQ.1 c_1_1
    refine x_aload_n 0 d_X6_slopeIn_16 rfl rfl ?_
    refine x_getf 5 gf_X6_46 gS_0 rfl d_X6_slopeIn_17 ?_
    refine x_iload_n 1 d_X6_slopeIn_20 rfl rfl ?_
    refine x_iload_n 2 d_X6_slopeIn_21 rfl rfl ?_
    refine x_iload_n 3 d_X6_slopeIn_22 rfl rfl ?_
    refine x_invV (rest := []) (d' := d - 1) (mc' := 0) (ms' := 0) [.int i, .int j, .int u] k_X4_slopeIn lk_X6_81 gS_17 rfl rfl rfl (Nat.le_of_ble_eq_true rfl) (by omega) (Nat.le_refl _) (Nat.le_refl _) d_X6_slopeIn_23 ((sp_X4_slopeIn (d := d - 1) (by omega) hQ).mono (fun r w2 hr => ?_))
    obtain ⟨r2, rfl, rfl, hQ⟩ := hr
    exact x_iret (retI d_X6_slopeIn_26 rfl) ⟨_, rfl, rfl, hQ⟩
  · have hQ := hQ.2 c_1_1
    refine x_aload_n 0 d_X6_slopeIn_4 rfl rfl ?_
    refine x_getf 2 gf_X6_28 gS_0 rfl d_X6_slopeIn_5 ?_
    refine x_iload_n 2 d_X6_slopeIn_8 rfl rfl ?_
    refine x_iload_n 3 d_X6_slopeIn_9 rfl rfl ?_
    refine x_invV (rest := []) (d' := d - 1) (mc' := 0) (ms' := 0) [.int j, .int u] k_X1_slopeAt lk_X6_78 gS_8 rfl rfl rfl (Nat.le_of_ble_eq_true rfl) (by omega) (Nat.le_refl _) (Nat.le_refl _) d_X6_slopeIn_10 ((sp_X1_slopeAt (d := d - 1) (by omega) hQ).mono (fun r w2 hr => ?_))
    obtain ⟨r3, rfl, rfl, hQ⟩ := hr
    refine x_goto (tgt := 26) d_X6_slopeIn_13 (by decide) ?_
    exact x_iret (retI d_X6_slopeIn_26 rfl) ⟨_, rfl, rfl, hQ⟩
