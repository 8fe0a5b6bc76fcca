def lp_X10_initR_200 (K : RT → Prop) : Nat → Int32 → RT → Prop
  | 0, _, _ => False
  | n + 1, x_1, y_0 => (((3 : Int32) ≤ x_1 → wp_X10_solvesAll y_0 (fun (s5 : RT) => K s5)) ∧ (¬ (3 : Int32) ≤ x_1 → vp_in ((48 : Int32) + ((81 : Int32) * x_1)) 812 ∧ ∀ s6 : RT, s6 = rI y_0 1 (upd (y_0.1 1) ((48 : Int32) + ((81 : Int32) * x_1)).toNatClampNeg (1 : Int32)) → vp_in (((48 : Int32) + ((81 : Int32) * x_1)) + (1 : Int32)) 812 ∧ ∀ s7 : RT, s7 = rI s6 1 (upd (s6.1 1) (((48 : Int32) + ((81 : Int32) * x_1)) + (1 : Int32)).toNatClampNeg (48 : Int32)) → ∀ x8 : Int32, x8 = x_1 + (1 : Int32) → lp_X10_initR_200  K n x8 s7))
set_option maxHeartbeats 4000000 in
theorem jt_X10_initR_200 {G : GX} {l : Launch} {d : Nat} {w : HW} {a : Nat} {K : RT → Prop} (hd : 9 ≤ d) : ∀ (n : Nat) (x_1 : Int32) (y_0 : RT), lp_X10_initR_200 K n x_1 y_0 → X G l m_X10_init d 21 19413 21 19413 200 [(0, .ref a), (1, .int x_1)] [] (put w a 22 (shM a y_0)) (fun r w2 => ∃ (z0 : RT), r = none ∧ w2 = put w a 22 (shM a z0) ∧ K z0) := by
  intro n
  induction n with
  | zero =>
    intro x_1 y_0 hQ
    exact hQ.elim
  | succ n ih =>
    intro x_1 y_0 hQ
    refine x_iload_n 1 d_X10_init_200 rfl rfl ?_
    refine x_iconst (v := (3 : Int32)) d_X10_init_201 (by decide) ?_
    refine x_icmp_ge (tgt := 240) d_X10_init_202 (by decide) (fun c_202_4 => ?_) (fun c_202_4 => ?_)
    · have hQ := hQ.1 c_202_4
      refine x_aload_n 0 d_X10_init_240 rfl rfl ?_
      refine x_invV (rest := []) (d' := d - 1) (mc' := 0) (ms' := 0) [] k_X10_solvesAll lk_X10_74 gM_0 rfl rfl rfl (Nat.le_of_ble_eq_true rfl) (by omega) (Nat.le_refl _) (Nat.le_refl _) d_X10_init_241 ((sp_X10_solvesAll (d := d - 1) (by omega) hQ).mono (fun r w2 hr => ?_))
      obtain ⟨s5, rfl, rfl, hQ⟩ := hr
      exact x_vret (retV d_X10_init_244 rfl) ⟨_, rfl, rfl, hQ⟩
    · have hQ := hQ.2 c_202_4
      refine x_aload_n 0 d_X10_init_205 rfl rfl ?_
      refine x_getf 0 gf_X10_7 gM_0 rfl d_X10_init_206 ?_
      refine x_bipush (v := (48 : Int32)) d_X10_init_209 (by decide) ?_
      refine x_bipush (v := (81 : Int32)) d_X10_init_211 (by decide) ?_
      refine x_iload_n 1 d_X10_init_213 rfl rfl ?_
      refine x_imul d_X10_init_214 ?_
      refine x_iadd d_X10_init_215 ?_
      refine x_iconst (v := (1 : Int32)) d_X10_init_216 (by decide) ?_
      have hN := hQ.1
      have hQ := hQ.2
      refine x_iast gM_1 hN d_X10_init_217 ?_
      obtain ⟨s6, e_s6⟩ : ∃ z : RT, z = rI y_0 1 (upd (y_0.1 1) ((48 : Int32) + ((81 : Int32) * x_1)).toNatClampNeg (1 : Int32)) := ⟨_, rfl⟩
      have hQ := hQ s6 e_s6
      refine X.world (w2 := put w a 22 (shM a s6)) (by rw [e_s6]; exact sM_1) ?_
      refine x_aload_n 0 d_X10_init_218 rfl rfl ?_
      refine x_getf 0 gf_X10_7 gM_0 rfl d_X10_init_219 ?_
      refine x_bipush (v := (48 : Int32)) d_X10_init_222 (by decide) ?_
      refine x_bipush (v := (81 : Int32)) d_X10_init_224 (by decide) ?_
      refine x_iload_n 1 d_X10_init_226 rfl rfl ?_
      refine x_imul d_X10_init_227 ?_
      refine x_iadd d_X10_init_228 ?_
      refine x_iconst (v := (1 : Int32)) d_X10_init_229 (by decide) ?_
      refine x_iadd d_X10_init_230 ?_
      refine x_bipush (v := (48 : Int32)) d_X10_init_231 (by decide) ?_
      have hN := hQ.1
      have hQ := hQ.2
      refine x_iast gM_1 hN d_X10_init_233 ?_
      obtain ⟨s7, e_s7⟩ : ∃ z : RT, z = rI s6 1 (upd (s6.1 1) (((48 : Int32) + ((81 : Int32) * x_1)) + (1 : Int32)).toNatClampNeg (48 : Int32)) := ⟨_, rfl⟩
      have hQ := hQ s7 e_s7
      refine X.world (w2 := put w a 22 (shM a s7)) (by rw [e_s7]; exact sM_1) ?_
      obtain ⟨x8, e_x8⟩ : ∃ z : Int32, z = x_1 + (1 : Int32) := ⟨_, rfl⟩
      have hQ := hQ x8 e_x8
      refine x_iinc (v := x8) (lv2 := [(1, .int x8), (0, .ref a)]) 1 d_X10_init_234 rfl (by rw [e_x8]; rfl) (by decide) rfl ?_
      refine x_goto (tgt := 200) d_X10_init_237 (by decide) ?_
      refine x_sub [1, 0] (lv2 := [(0, .ref a), (1, .int x8)]) rfl ?_
      exact ih x8 s7 hQ
def wp_X10_initR (s : RT) (K : RT → Prop) : Prop := vp_in (0 : Int32) 812 ∧ ∀ s1 : RT, s1 = rI s 1 (upd (s.1 1) (0 : Int32).toNatClampNeg (100 : Int32)) → vp_in (1 : Int32) 812 ∧ ∀ s2 : RT, s2 = rI s1 1 (upd (s1.1 1) (1 : Int32).toNatClampNeg (1 : Int32)) → vp_in (2 : Int32) 812 ∧ ∀ s3 : RT, s3 = rI s2 1 (upd (s2.1 1) (2 : Int32).toNatClampNeg (2 : Int32)) → ∃ m : Nat, lp_X10_initR_200  K m (0 : Int32) s3
set_option maxHeartbeats 4000000 in
theorem jt_X10_initR {G : GX} {l : Launch} {d : Nat} {w : HW} {a : Nat} {s : RT} {K : RT → Prop} (hd : 9 ≤ d) (hQ : wp_X10_initR s K) : X G l m_X10_init d 21 19413 21 19413 176 [(0, .ref a)] [] (put w a 22 (shM a s)) (fun r w2 => ∃ (z0 : RT), r = none ∧ w2 = put w a 22 (shM a z0) ∧ K z0) := by
  refine x_aload_n 0 d_X10_init_176 rfl rfl ?_
  refine x_getf 0 gf_X10_7 gM_0 rfl d_X10_init_177 ?_
  refine x_iconst (v := (0 : Int32)) d_X10_init_180 (by decide) ?_
  refine x_bipush (v := (100 : Int32)) d_X10_init_181 (by decide) ?_
  have hN := hQ.1
  have hQ := hQ.2
  refine x_iast gM_1 hN d_X10_init_183 ?_
  obtain ⟨s1, e_s1⟩ : ∃ z : RT, z = rI s 1 (upd (s.1 1) (0 : Int32).toNatClampNeg (100 : Int32)) := ⟨_, rfl⟩
  have hQ := hQ s1 e_s1
  refine X.world (w2 := put w a 22 (shM a s1)) (by rw [e_s1]; exact sM_1) ?_
  refine x_aload_n 0 d_X10_init_184 rfl rfl ?_
  refine x_getf 0 gf_X10_7 gM_0 rfl d_X10_init_185 ?_
  refine x_iconst (v := (1 : Int32)) d_X10_init_188 (by decide) ?_
  refine x_iconst (v := (1 : Int32)) d_X10_init_189 (by decide) ?_
  have hN := hQ.1
  have hQ := hQ.2
  refine x_iast gM_1 hN d_X10_init_190 ?_
  obtain ⟨s2, e_s2⟩ : ∃ z : RT, z = rI s1 1 (upd (s1.1 1) (1 : Int32).toNatClampNeg (1 : Int32)) := ⟨_, rfl⟩
  have hQ := hQ s2 e_s2
  refine X.world (w2 := put w a 22 (shM a s2)) (by rw [e_s2]; exact sM_1) ?_
  refine x_aload_n 0 d_X10_init_191 rfl rfl ?_
  refine x_getf 0 gf_X10_7 gM_0 rfl d_X10_init_192 ?_
  refine x_iconst (v := (2 : Int32)) d_X10_init_195 (by decide) ?_
  refine x_iconst (v := (2 : Int32)) d_X10_init_196 (by decide) ?_
  have hN := hQ.1
  have hQ := hQ.2
  refine x_iast gM_1 hN d_X10_init_197 ?_
  obtain ⟨s3, e_s3⟩ : ∃ z : RT, z = rI s2 1 (upd (s2.1 1) (2 : Int32).toNatClampNeg (2 : Int32)) := ⟨_, rfl⟩
  have hQ := hQ s3 e_s3
  refine X.world (w2 := put w a 22 (shM a s3)) (by rw [e_s3]; exact sM_1) ?_
  refine x_iconst (v := (0 : Int32)) d_X10_init_198 (by decide) ?_
  refine x_istore_n (lv2 := [(1, .int (0 : Int32)), (0, .ref a)]) d_X10_init_199 rfl (by decide) rfl ?_
  refine x_sub [1, 0] (lv2 := [(0, .ref a), (1, .int (0 : Int32))]) rfl ?_
  obtain ⟨m, hQ⟩ := hQ
  exact jt_X10_initR_200 hd m (0 : Int32) s3 hQ
def s0M : RT := (fun _ _ => 0, fun _ _ => 0, fun _ => 0)
set_option maxHeartbeats 4000000 in
set_option maxRecDepth 4000 in
theorem spc_X10_init {G : GX} {l : Launch} {d : Nat} {w : HW} {a : Nat} {K : RT → Prop} (hd : 9 ≤ d) (hQ : wp_X10_initR s0M K) : Sp G l m_X10_init d 21 19413 [.ref a] (ex w a [cO 10 [.null, .null, .int 0, .null, .null, .null, .int 0, .null, .null, .null, .int 0, .null, .null, .null, .null, .null, .null, .int 0, .int 0, .int 0, .int 0, .int 0, .null, .null, .null, .null, .null, .null, .null, .int 0, .int 0]]) (fun r w2 => ∃ z0 : RT, r = none ∧ w2 = put (w.1, a + 22) a 22 (shM a z0) ∧ K z0) := by
  refine Sp.ofX k_X10_init.1.1 (Nat.le_of_ble_eq_true rfl) ?_
  refine X.lv (lv2 := [(0, .ref a)]) rfl ?_
  refine x_aload_n 0 d_X10_init_0 rfl rfl ?_
  refine x_objInit lk_X10_1 ow_i ow_c (by omega) (Nat.le_of_ble_eq_true rfl) d_X10_init_1 ?_
  refine x_aload_n 0 d_X10_init_4 rfl rfl ?_
  refine x_sipush (v := (812 : Int32)) d_X10_init_5 (by decide) ?_
  refine x_newIE (cl2 := [cO 10 [.null, .null, .int 0, .null, .null, .null, .int 0, .null, .null, .null, .int 0, .null, .null, .null, .null, .null, .null, .int 0, .int 0, .int 0, .int 0, .int 0, .null, .null, .null, .null, .null, .null, .null, .int 0, .int 0], cI 812 (fun _ => 0)]) (a + 1) rfl rfl (by decide) (by decide) (by decide) (Nat.le_of_ble_eq_true rfl) (Nat.le_of_ble_eq_true rfl) d_X10_init_8 ?_
  refine x_putF 0 (.array .int) pf_X10_7 rfl (ex_at0 rfl) rfl rfl (Nat.le_of_ble_eq_true rfl) d_X10_init_10 ?_
  refine X.world (w2 := ex w a [cO 10 [.ref (a + 1), .null, .int 0, .null, .null, .null, .int 0, .null, .null, .null, .int 0, .null, .null, .null, .null, .null, .null, .int 0, .int 0, .int 0, .int 0, .int 0, .null, .null, .null, .null, .null, .null, .null, .int 0, .int 0], cI 812 (fun _ => 0)]) (ex_hset0 (Nat.le_of_ble_eq_true rfl) rfl) ?_
  refine x_aload_n 0 d_X10_init_13 rfl rfl ?_
  refine x_sipush (v := (3248 : Int32)) d_X10_init_14 (by decide) ?_
  refine x_newIE (cl2 := [cO 10 [.ref (a + 1), .null, .int 0, .null, .null, .null, .int 0, .null, .null, .null, .int 0, .null, .null, .null, .null, .null, .null, .int 0, .int 0, .int 0, .int 0, .int 0, .null, .null, .null, .null, .null, .null, .null, .int 0, .int 0], cI 812 (fun _ => 0), cI 3248 (fun _ => 0)]) (a + 2) rfl rfl (by decide) (by decide) (by decide) (Nat.le_of_ble_eq_true rfl) (Nat.le_of_ble_eq_true rfl) d_X10_init_17 ?_
  refine x_putF 1 (.array .int) pf_X10_13 rfl (ex_at0 rfl) rfl rfl (Nat.le_of_ble_eq_true rfl) d_X10_init_19 ?_
  refine X.world (w2 := ex w a [cO 10 [.ref (a + 1), .ref (a + 2), .int 0, .null, .null, .null, .int 0, .null, .null, .null, .int 0, .null, .null, .null, .null, .null, .null, .int 0, .int 0, .int 0, .int 0, .int 0, .null, .null, .null, .null, .null, .null, .null, .int 0, .int 0], cI 812 (fun _ => 0), cI 3248 (fun _ => 0)]) (ex_hset0 (Nat.le_of_ble_eq_true rfl) rfl) ?_
  refine x_aload_n 0 d_X10_init_22 rfl rfl ?_
  refine x_sipush (v := (1624 : Int32)) d_X10_init_23 (by decide) ?_
  refine x_newIE (cl2 := [cO 10 [.ref (a + 1), .ref (a + 2), .int 0, .null, .null, .null, .int 0, .null, .null, .null, .int 0, .null, .null, .null, .null, .null, .null, .int 0, .int 0, .int 0, .int 0, .int 0, .null, .null, .null, .null, .null, .null, .null, .int 0, .int 0], cI 812 (fun _ => 0), cI 3248 (fun _ => 0), cI 1624 (fun _ => 0)]) (a + 3) rfl rfl (by decide) (by decide) (by decide) (Nat.le_of_ble_eq_true rfl) (Nat.le_of_ble_eq_true rfl) d_X10_init_26 ?_
  refine x_putF 3 (.array .int) pf_X10_16 rfl (ex_at0 rfl) rfl rfl (Nat.le_of_ble_eq_true rfl) d_X10_init_28 ?_
  refine X.world (w2 := ex w a [cO 10 [.ref (a + 1), .ref (a + 2), .int 0, .ref (a + 3), .null, .null, .int 0, .null, .null, .null, .int 0, .null, .null, .null, .null, .null, .null, .int 0, .int 0, .int 0, .int 0, .int 0, .null, .null, .null, .null, .null, .null, .null, .int 0, .int 0], cI 812 (fun _ => 0), cI 3248 (fun _ => 0), cI 1624 (fun _ => 0)]) (ex_hset0 (Nat.le_of_ble_eq_true rfl) rfl) ?_
  refine x_aload_n 0 d_X10_init_31 rfl rfl ?_
  refine x_iconst (v := (2 : Int32)) d_X10_init_32 (by decide) ?_
  refine x_newIE (cl2 := [cO 10 [.ref (a + 1), .ref (a + 2), .int 0, .ref (a + 3), .null, .null, .int 0, .null, .null, .null, .int 0, .null, .null, .null, .null, .null, .null, .int 0, .int 0, .int 0, .int 0, .int 0, .null, .null, .null, .null, .null, .null, .null, .int 0, .int 0], cI 812 (fun _ => 0), cI 3248 (fun _ => 0), cI 1624 (fun _ => 0), cI 2 (fun _ => 0)]) (a + 4) rfl rfl (by decide) (by decide) (by decide) (Nat.le_of_ble_eq_true rfl) (Nat.le_of_ble_eq_true rfl) d_X10_init_33 ?_
  refine x_putF 4 (.array .int) pf_X10_19 rfl (ex_at0 rfl) rfl rfl (Nat.le_of_ble_eq_true rfl) d_X10_init_35 ?_
  refine X.world (w2 := ex w a [cO 10 [.ref (a + 1), .ref (a + 2), .int 0, .ref (a + 3), .ref (a + 4), .null, .int 0, .null, .null, .null, .int 0, .null, .null, .null, .null, .null, .null, .int 0, .int 0, .int 0, .int 0, .int 0, .null, .null, .null, .null, .null, .null, .null, .int 0, .int 0], cI 812 (fun _ => 0), cI 3248 (fun _ => 0), cI 1624 (fun _ => 0), cI 2 (fun _ => 0)]) (ex_hset0 (Nat.le_of_ble_eq_true rfl) rfl) ?_
  refine x_aload_n 0 d_X10_init_38 rfl rfl ?_
  refine x_bipush (v := (80 : Int32)) d_X10_init_39 (by decide) ?_
  refine x_newIE (cl2 := [cO 10 [.ref (a + 1), .ref (a + 2), .int 0, .ref (a + 3), .ref (a + 4), .null, .int 0, .null, .null, .null, .int 0, .null, .null, .null, .null, .null, .null, .int 0, .int 0, .int 0, .int 0, .int 0, .null, .null, .null, .null, .null, .null, .null, .int 0, .int 0], cI 812 (fun _ => 0), cI 3248 (fun _ => 0), cI 1624 (fun _ => 0), cI 2 (fun _ => 0), cI 80 (fun _ => 0)]) (a + 5) rfl rfl (by decide) (by decide) (by decide) (Nat.le_of_ble_eq_true rfl) (Nat.le_of_ble_eq_true rfl) d_X10_init_41 ?_
  refine x_putF 5 (.array .int) pf_X10_22 rfl (ex_at0 rfl) rfl rfl (Nat.le_of_ble_eq_true rfl) d_X10_init_43 ?_
  refine X.world (w2 := ex w a [cO 10 [.ref (a + 1), .ref (a + 2), .int 0, .ref (a + 3), .ref (a + 4), .ref (a + 5), .int 0, .null, .null, .null, .int 0, .null, .null, .null, .null, .null, .null, .int 0, .int 0, .int 0, .int 0, .int 0, .null, .null, .null, .null, .null, .null, .null, .int 0, .int 0], cI 812 (fun _ => 0), cI 3248 (fun _ => 0), cI 1624 (fun _ => 0), cI 2 (fun _ => 0), cI 80 (fun _ => 0)]) (ex_hset0 (Nat.le_of_ble_eq_true rfl) rfl) ?_
  refine x_aload_n 0 d_X10_init_46 rfl rfl ?_
  refine x_bipush (v := (64 : Int32)) d_X10_init_47 (by decide) ?_
  refine x_newIE (cl2 := [cO 10 [.ref (a + 1), .ref (a + 2), .int 0, .ref (a + 3), .ref (a + 4), .ref (a + 5), .int 0, .null, .null, .null, .int 0, .null, .null, .null, .null, .null, .null, .int 0, .int 0, .int 0, .int 0, .int 0, .null, .null, .null, .null, .null, .null, .null, .int 0, .int 0], cI 812 (fun _ => 0), cI 3248 (fun _ => 0), cI 1624 (fun _ => 0), cI 2 (fun _ => 0), cI 80 (fun _ => 0), cI 64 (fun _ => 0)]) (a + 6) rfl rfl (by decide) (by decide) (by decide) (Nat.le_of_ble_eq_true rfl) (Nat.le_of_ble_eq_true rfl) d_X10_init_49 ?_
  refine x_putF 7 (.array .int) pf_X10_25 rfl (ex_at0 rfl) rfl rfl (Nat.le_of_ble_eq_true rfl) d_X10_init_51 ?_
  refine X.world (w2 := ex w a [cO 10 [.ref (a + 1), .ref (a + 2), .int 0, .ref (a + 3), .ref (a + 4), .ref (a + 5), .int 0, .ref (a + 6), .null, .null, .int 0, .null, .null, .null, .null, .null, .null, .int 0, .int 0, .int 0, .int 0, .int 0, .null, .null, .null, .null, .null, .null, .null, .int 0, .int 0], cI 812 (fun _ => 0), cI 3248 (fun _ => 0), cI 1624 (fun _ => 0), cI 2 (fun _ => 0), cI 80 (fun _ => 0), cI 64 (fun _ => 0)]) (ex_hset0 (Nat.le_of_ble_eq_true rfl) rfl) ?_
  refine x_aload_n 0 d_X10_init_54 rfl rfl ?_
  refine x_bipush (v := (64 : Int32)) d_X10_init_55 (by decide) ?_
  refine x_newIE (cl2 := [cO 10 [.ref (a + 1), .ref (a + 2), .int 0, .ref (a + 3), .ref (a + 4), .ref (a + 5), .int 0, .ref (a + 6), .null, .null, .int 0, .null, .null, .null, .null, .null, .null, .int 0, .int 0, .int 0, .int 0, .int 0, .null, .null, .null, .null, .null, .null, .null, .int 0, .int 0], cI 812 (fun _ => 0), cI 3248 (fun _ => 0), cI 1624 (fun _ => 0), cI 2 (fun _ => 0), cI 80 (fun _ => 0), cI 64 (fun _ => 0), cI 64 (fun _ => 0)]) (a + 7) rfl rfl (by decide) (by decide) (by decide) (Nat.le_of_ble_eq_true rfl) (Nat.le_of_ble_eq_true rfl) d_X10_init_57 ?_
  refine x_putF 8 (.array .int) pf_X10_28 rfl (ex_at0 rfl) rfl rfl (Nat.le_of_ble_eq_true rfl) d_X10_init_59 ?_
  refine X.world (w2 := ex w a [cO 10 [.ref (a + 1), .ref (a + 2), .int 0, .ref (a + 3), .ref (a + 4), .ref (a + 5), .int 0, .ref (a + 6), .ref (a + 7), .null, .int 0, .null, .null, .null, .null, .null, .null, .int 0, .int 0, .int 0, .int 0, .int 0, .null, .null, .null, .null, .null, .null, .null, .int 0, .int 0], cI 812 (fun _ => 0), cI 3248 (fun _ => 0), cI 1624 (fun _ => 0), cI 2 (fun _ => 0), cI 80 (fun _ => 0), cI 64 (fun _ => 0), cI 64 (fun _ => 0)]) (ex_hset0 (Nat.le_of_ble_eq_true rfl) rfl) ?_
  refine x_aload_n 0 d_X10_init_62 rfl rfl ?_
  refine x_bipush (v := (64 : Int32)) d_X10_init_63 (by decide) ?_
  refine x_newIE (cl2 := [cO 10 [.ref (a + 1), .ref (a + 2), .int 0, .ref (a + 3), .ref (a + 4), .ref (a + 5), .int 0, .ref (a + 6), .ref (a + 7), .null, .int 0, .null, .null, .null, .null, .null, .null, .int 0, .int 0, .int 0, .int 0, .int 0, .null, .null, .null, .null, .null, .null, .null, .int 0, .int 0], cI 812 (fun _ => 0), cI 3248 (fun _ => 0), cI 1624 (fun _ => 0), cI 2 (fun _ => 0), cI 80 (fun _ => 0), cI 64 (fun _ => 0), cI 64 (fun _ => 0), cI 64 (fun _ => 0)]) (a + 8) rfl rfl (by decide) (by decide) (by decide) (Nat.le_of_ble_eq_true rfl) (Nat.le_of_ble_eq_true rfl) d_X10_init_65 ?_
  refine x_putF 9 (.array .int) pf_X10_31 rfl (ex_at0 rfl) rfl rfl (Nat.le_of_ble_eq_true rfl) d_X10_init_67 ?_
  refine X.world (w2 := ex w a [cO 10 [.ref (a + 1), .ref (a + 2), .int 0, .ref (a + 3), .ref (a + 4), .ref (a + 5), .int 0, .ref (a + 6), .ref (a + 7), .ref (a + 8), .int 0, .null, .null, .null, .null, .null, .null, .int 0, .int 0, .int 0, .int 0, .int 0, .null, .null, .null, .null, .null, .null, .null, .int 0, .int 0], cI 812 (fun _ => 0), cI 3248 (fun _ => 0), cI 1624 (fun _ => 0), cI 2 (fun _ => 0), cI 80 (fun _ => 0), cI 64 (fun _ => 0), cI 64 (fun _ => 0), cI 64 (fun _ => 0)]) (ex_hset0 (Nat.le_of_ble_eq_true rfl) rfl) ?_
  refine x_aload_n 0 d_X10_init_70 rfl rfl ?_
  refine x_sipush (v := (1100 : Int32)) d_X10_init_71 (by decide) ?_
  refine x_newIE (cl2 := [cO 10 [.ref (a + 1), .ref (a + 2), .int 0, .ref (a + 3), .ref (a + 4), .ref (a + 5), .int 0, .ref (a + 6), .ref (a + 7), .ref (a + 8), .int 0, .null, .null, .null, .null, .null, .null, .int 0, .int 0, .int 0, .int 0, .int 0, .null, .null, .null, .null, .null, .null, .null, .int 0, .int 0], cI 812 (fun _ => 0), cI 3248 (fun _ => 0), cI 1624 (fun _ => 0), cI 2 (fun _ => 0), cI 80 (fun _ => 0), cI 64 (fun _ => 0), cI 64 (fun _ => 0), cI 64 (fun _ => 0), cI 1100 (fun _ => 0)]) (a + 9) rfl rfl (by decide) (by decide) (by decide) (Nat.le_of_ble_eq_true rfl) (Nat.le_of_ble_eq_true rfl) d_X10_init_74 ?_
  refine x_putF 11 (.array .int) pf_X10_34 rfl (ex_at0 rfl) rfl rfl (Nat.le_of_ble_eq_true rfl) d_X10_init_76 ?_
  refine X.world (w2 := ex w a [cO 10 [.ref (a + 1), .ref (a + 2), .int 0, .ref (a + 3), .ref (a + 4), .ref (a + 5), .int 0, .ref (a + 6), .ref (a + 7), .ref (a + 8), .int 0, .ref (a + 9), .null, .null, .null, .null, .null, .int 0, .int 0, .int 0, .int 0, .int 0, .null, .null, .null, .null, .null, .null, .null, .int 0, .int 0], cI 812 (fun _ => 0), cI 3248 (fun _ => 0), cI 1624 (fun _ => 0), cI 2 (fun _ => 0), cI 80 (fun _ => 0), cI 64 (fun _ => 0), cI 64 (fun _ => 0), cI 64 (fun _ => 0), cI 1100 (fun _ => 0)]) (ex_hset0 (Nat.le_of_ble_eq_true rfl) rfl) ?_
  refine x_aload_n 0 d_X10_init_79 rfl rfl ?_
  refine x_sipush (v := (1100 : Int32)) d_X10_init_80 (by decide) ?_
  refine x_newIE (cl2 := [cO 10 [.ref (a + 1), .ref (a + 2), .int 0, .ref (a + 3), .ref (a + 4), .ref (a + 5), .int 0, .ref (a + 6), .ref (a + 7), .ref (a + 8), .int 0, .ref (a + 9), .null, .null, .null, .null, .null, .int 0, .int 0, .int 0, .int 0, .int 0, .null, .null, .null, .null, .null, .null, .null, .int 0, .int 0], cI 812 (fun _ => 0), cI 3248 (fun _ => 0), cI 1624 (fun _ => 0), cI 2 (fun _ => 0), cI 80 (fun _ => 0), cI 64 (fun _ => 0), cI 64 (fun _ => 0), cI 64 (fun _ => 0), cI 1100 (fun _ => 0), cI 1100 (fun _ => 0)]) (a + 10) rfl rfl (by decide) (by decide) (by decide) (Nat.le_of_ble_eq_true rfl) (Nat.le_of_ble_eq_true rfl) d_X10_init_83 ?_
  refine x_putF 12 (.array .int) pf_X10_37 rfl (ex_at0 rfl) rfl rfl (Nat.le_of_ble_eq_true rfl) d_X10_init_85 ?_
  refine X.world (w2 := ex w a [cO 10 [.ref (a + 1), .ref (a + 2), .int 0, .ref (a + 3), .ref (a + 4), .ref (a + 5), .int 0, .ref (a + 6), .ref (a + 7), .ref (a + 8), .int 0, .ref (a + 9), .ref (a + 10), .null, .null, .null, .null, .int 0, .int 0, .int 0, .int 0, .int 0, .null, .null, .null, .null, .null, .null, .null, .int 0, .int 0], cI 812 (fun _ => 0), cI 3248 (fun _ => 0), cI 1624 (fun _ => 0), cI 2 (fun _ => 0), cI 80 (fun _ => 0), cI 64 (fun _ => 0), cI 64 (fun _ => 0), cI 64 (fun _ => 0), cI 1100 (fun _ => 0), cI 1100 (fun _ => 0)]) (ex_hset0 (Nat.le_of_ble_eq_true rfl) rfl) ?_
  refine x_aload_n 0 d_X10_init_88 rfl rfl ?_
  refine x_sipush (v := (1100 : Int32)) d_X10_init_89 (by decide) ?_
  refine x_newIE (cl2 := [cO 10 [.ref (a + 1), .ref (a + 2), .int 0, .ref (a + 3), .ref (a + 4), .ref (a + 5), .int 0, .ref (a + 6), .ref (a + 7), .ref (a + 8), .int 0, .ref (a + 9), .ref (a + 10), .null, .null, .null, .null, .int 0, .int 0, .int 0, .int 0, .int 0, .null, .null, .null, .null, .null, .null, .null, .int 0, .int 0], cI 812 (fun _ => 0), cI 3248 (fun _ => 0), cI 1624 (fun _ => 0), cI 2 (fun _ => 0), cI 80 (fun _ => 0), cI 64 (fun _ => 0), cI 64 (fun _ => 0), cI 64 (fun _ => 0), cI 1100 (fun _ => 0), cI 1100 (fun _ => 0), cI 1100 (fun _ => 0)]) (a + 11) rfl rfl (by decide) (by decide) (by decide) (Nat.le_of_ble_eq_true rfl) (Nat.le_of_ble_eq_true rfl) d_X10_init_92 ?_
  refine x_putF 13 (.array .int) pf_X10_40 rfl (ex_at0 rfl) rfl rfl (Nat.le_of_ble_eq_true rfl) d_X10_init_94 ?_
  refine X.world (w2 := ex w a [cO 10 [.ref (a + 1), .ref (a + 2), .int 0, .ref (a + 3), .ref (a + 4), .ref (a + 5), .int 0, .ref (a + 6), .ref (a + 7), .ref (a + 8), .int 0, .ref (a + 9), .ref (a + 10), .ref (a + 11), .null, .null, .null, .int 0, .int 0, .int 0, .int 0, .int 0, .null, .null, .null, .null, .null, .null, .null, .int 0, .int 0], cI 812 (fun _ => 0), cI 3248 (fun _ => 0), cI 1624 (fun _ => 0), cI 2 (fun _ => 0), cI 80 (fun _ => 0), cI 64 (fun _ => 0), cI 64 (fun _ => 0), cI 64 (fun _ => 0), cI 1100 (fun _ => 0), cI 1100 (fun _ => 0), cI 1100 (fun _ => 0)]) (ex_hset0 (Nat.le_of_ble_eq_true rfl) rfl) ?_
  refine x_aload_n 0 d_X10_init_97 rfl rfl ?_
  refine x_sipush (v := (3300 : Int32)) d_X10_init_98 (by decide) ?_
  refine x_newJE (cl2 := [cO 10 [.ref (a + 1), .ref (a + 2), .int 0, .ref (a + 3), .ref (a + 4), .ref (a + 5), .int 0, .ref (a + 6), .ref (a + 7), .ref (a + 8), .int 0, .ref (a + 9), .ref (a + 10), .ref (a + 11), .null, .null, .null, .int 0, .int 0, .int 0, .int 0, .int 0, .null, .null, .null, .null, .null, .null, .null, .int 0, .int 0], cI 812 (fun _ => 0), cI 3248 (fun _ => 0), cI 1624 (fun _ => 0), cI 2 (fun _ => 0), cI 80 (fun _ => 0), cI 64 (fun _ => 0), cI 64 (fun _ => 0), cI 64 (fun _ => 0), cI 1100 (fun _ => 0), cI 1100 (fun _ => 0), cI 1100 (fun _ => 0), cL 3300 (fun _ => 0)]) (a + 12) rfl rfl (by decide) (by decide) (by decide) (Nat.le_of_ble_eq_true rfl) (Nat.le_of_ble_eq_true rfl) d_X10_init_101 ?_
  refine x_putF 14 (.array .long) pf_X10_43 rfl (ex_at0 rfl) rfl rfl (Nat.le_of_ble_eq_true rfl) d_X10_init_103 ?_
  refine X.world (w2 := ex w a [cO 10 [.ref (a + 1), .ref (a + 2), .int 0, .ref (a + 3), .ref (a + 4), .ref (a + 5), .int 0, .ref (a + 6), .ref (a + 7), .ref (a + 8), .int 0, .ref (a + 9), .ref (a + 10), .ref (a + 11), .ref (a + 12), .null, .null, .int 0, .int 0, .int 0, .int 0, .int 0, .null, .null, .null, .null, .null, .null, .null, .int 0, .int 0], cI 812 (fun _ => 0), cI 3248 (fun _ => 0), cI 1624 (fun _ => 0), cI 2 (fun _ => 0), cI 80 (fun _ => 0), cI 64 (fun _ => 0), cI 64 (fun _ => 0), cI 64 (fun _ => 0), cI 1100 (fun _ => 0), cI 1100 (fun _ => 0), cI 1100 (fun _ => 0), cL 3300 (fun _ => 0)]) (ex_hset0 (Nat.le_of_ble_eq_true rfl) rfl) ?_
  refine x_aload_n 0 d_X10_init_106 rfl rfl ?_
  refine x_sipush (v := (3300 : Int32)) d_X10_init_107 (by decide) ?_
  refine x_newJE (cl2 := [cO 10 [.ref (a + 1), .ref (a + 2), .int 0, .ref (a + 3), .ref (a + 4), .ref (a + 5), .int 0, .ref (a + 6), .ref (a + 7), .ref (a + 8), .int 0, .ref (a + 9), .ref (a + 10), .ref (a + 11), .ref (a + 12), .null, .null, .int 0, .int 0, .int 0, .int 0, .int 0, .null, .null, .null, .null, .null, .null, .null, .int 0, .int 0], cI 812 (fun _ => 0), cI 3248 (fun _ => 0), cI 1624 (fun _ => 0), cI 2 (fun _ => 0), cI 80 (fun _ => 0), cI 64 (fun _ => 0), cI 64 (fun _ => 0), cI 64 (fun _ => 0), cI 1100 (fun _ => 0), cI 1100 (fun _ => 0), cI 1100 (fun _ => 0), cL 3300 (fun _ => 0), cL 3300 (fun _ => 0)]) (a + 13) rfl rfl (by decide) (by decide) (by decide) (Nat.le_of_ble_eq_true rfl) (Nat.le_of_ble_eq_true rfl) d_X10_init_110 ?_
  refine x_putF 15 (.array .long) pf_X10_47 rfl (ex_at0 rfl) rfl rfl (Nat.le_of_ble_eq_true rfl) d_X10_init_112 ?_
  refine X.world (w2 := ex w a [cO 10 [.ref (a + 1), .ref (a + 2), .int 0, .ref (a + 3), .ref (a + 4), .ref (a + 5), .int 0, .ref (a + 6), .ref (a + 7), .ref (a + 8), .int 0, .ref (a + 9), .ref (a + 10), .ref (a + 11), .ref (a + 12), .ref (a + 13), .null, .int 0, .int 0, .int 0, .int 0, .int 0, .null, .null, .null, .null, .null, .null, .null, .int 0, .int 0], cI 812 (fun _ => 0), cI 3248 (fun _ => 0), cI 1624 (fun _ => 0), cI 2 (fun _ => 0), cI 80 (fun _ => 0), cI 64 (fun _ => 0), cI 64 (fun _ => 0), cI 64 (fun _ => 0), cI 1100 (fun _ => 0), cI 1100 (fun _ => 0), cI 1100 (fun _ => 0), cL 3300 (fun _ => 0), cL 3300 (fun _ => 0)]) (ex_hset0 (Nat.le_of_ble_eq_true rfl) rfl) ?_
  refine x_aload_n 0 d_X10_init_115 rfl rfl ?_
  refine x_sipush (v := (3300 : Int32)) d_X10_init_116 (by decide) ?_
  refine x_newJE (cl2 := [cO 10 [.ref (a + 1), .ref (a + 2), .int 0, .ref (a + 3), .ref (a + 4), .ref (a + 5), .int 0, .ref (a + 6), .ref (a + 7), .ref (a + 8), .int 0, .ref (a + 9), .ref (a + 10), .ref (a + 11), .ref (a + 12), .ref (a + 13), .null, .int 0, .int 0, .int 0, .int 0, .int 0, .null, .null, .null, .null, .null, .null, .null, .int 0, .int 0], cI 812 (fun _ => 0), cI 3248 (fun _ => 0), cI 1624 (fun _ => 0), cI 2 (fun _ => 0), cI 80 (fun _ => 0), cI 64 (fun _ => 0), cI 64 (fun _ => 0), cI 64 (fun _ => 0), cI 1100 (fun _ => 0), cI 1100 (fun _ => 0), cI 1100 (fun _ => 0), cL 3300 (fun _ => 0), cL 3300 (fun _ => 0), cL 3300 (fun _ => 0)]) (a + 14) rfl rfl (by decide) (by decide) (by decide) (Nat.le_of_ble_eq_true rfl) (Nat.le_of_ble_eq_true rfl) d_X10_init_119 ?_
  refine x_putF 16 (.array .long) pf_X10_50 rfl (ex_at0 rfl) rfl rfl (Nat.le_of_ble_eq_true rfl) d_X10_init_121 ?_
  refine X.world (w2 := ex w a [cO 10 [.ref (a + 1), .ref (a + 2), .int 0, .ref (a + 3), .ref (a + 4), .ref (a + 5), .int 0, .ref (a + 6), .ref (a + 7), .ref (a + 8), .int 0, .ref (a + 9), .ref (a + 10), .ref (a + 11), .ref (a + 12), .ref (a + 13), .ref (a + 14), .int 0, .int 0, .int 0, .int 0, .int 0, .null, .null, .null, .null, .null, .null, .null, .int 0, .int 0], cI 812 (fun _ => 0), cI 3248 (fun _ => 0), cI 1624 (fun _ => 0), cI 2 (fun _ => 0), cI 80 (fun _ => 0), cI 64 (fun _ => 0), cI 64 (fun _ => 0), cI 64 (fun _ => 0), cI 1100 (fun _ => 0), cI 1100 (fun _ => 0), cI 1100 (fun _ => 0), cL 3300 (fun _ => 0), cL 3300 (fun _ => 0), cL 3300 (fun _ => 0)]) (ex_hset0 (Nat.le_of_ble_eq_true rfl) rfl) ?_
  refine x_aload_n 0 d_X10_init_124 rfl rfl ?_
  refine x_iconst (v := (3 : Int32)) d_X10_init_125 (by decide) ?_
  refine x_newJE (cl2 := [cO 10 [.ref (a + 1), .ref (a + 2), .int 0, .ref (a + 3), .ref (a + 4), .ref (a + 5), .int 0, .ref (a + 6), .ref (a + 7), .ref (a + 8), .int 0, .ref (a + 9), .ref (a + 10), .ref (a + 11), .ref (a + 12), .ref (a + 13), .ref (a + 14), .int 0, .int 0, .int 0, .int 0, .int 0, .null, .null, .null, .null, .null, .null, .null, .int 0, .int 0], cI 812 (fun _ => 0), cI 3248 (fun _ => 0), cI 1624 (fun _ => 0), cI 2 (fun _ => 0), cI 80 (fun _ => 0), cI 64 (fun _ => 0), cI 64 (fun _ => 0), cI 64 (fun _ => 0), cI 1100 (fun _ => 0), cI 1100 (fun _ => 0), cI 1100 (fun _ => 0), cL 3300 (fun _ => 0), cL 3300 (fun _ => 0), cL 3300 (fun _ => 0), cL 3 (fun _ => 0)]) (a + 15) rfl rfl (by decide) (by decide) (by decide) (Nat.le_of_ble_eq_true rfl) (Nat.le_of_ble_eq_true rfl) d_X10_init_126 ?_
  refine x_putF 22 (.array .long) pf_X10_53 rfl (ex_at0 rfl) rfl rfl (Nat.le_of_ble_eq_true rfl) d_X10_init_128 ?_
  refine X.world (w2 := ex w a [cO 10 [.ref (a + 1), .ref (a + 2), .int 0, .ref (a + 3), .ref (a + 4), .ref (a + 5), .int 0, .ref (a + 6), .ref (a + 7), .ref (a + 8), .int 0, .ref (a + 9), .ref (a + 10), .ref (a + 11), .ref (a + 12), .ref (a + 13), .ref (a + 14), .int 0, .int 0, .int 0, .int 0, .int 0, .ref (a + 15), .null, .null, .null, .null, .null, .null, .int 0, .int 0], cI 812 (fun _ => 0), cI 3248 (fun _ => 0), cI 1624 (fun _ => 0), cI 2 (fun _ => 0), cI 80 (fun _ => 0), cI 64 (fun _ => 0), cI 64 (fun _ => 0), cI 64 (fun _ => 0), cI 1100 (fun _ => 0), cI 1100 (fun _ => 0), cI 1100 (fun _ => 0), cL 3300 (fun _ => 0), cL 3300 (fun _ => 0), cL 3300 (fun _ => 0), cL 3 (fun _ => 0)]) (ex_hset0 (Nat.le_of_ble_eq_true rfl) rfl) ?_
  refine x_aload_n 0 d_X10_init_131 rfl rfl ?_
  refine x_iconst (v := (3 : Int32)) d_X10_init_132 (by decide) ?_
  refine x_newJE (cl2 := [cO 10 [.ref (a + 1), .ref (a + 2), .int 0, .ref (a + 3), .ref (a + 4), .ref (a + 5), .int 0, .ref (a + 6), .ref (a + 7), .ref (a + 8), .int 0, .ref (a + 9), .ref (a + 10), .ref (a + 11), .ref (a + 12), .ref (a + 13), .ref (a + 14), .int 0, .int 0, .int 0, .int 0, .int 0, .ref (a + 15), .null, .null, .null, .null, .null, .null, .int 0, .int 0], cI 812 (fun _ => 0), cI 3248 (fun _ => 0), cI 1624 (fun _ => 0), cI 2 (fun _ => 0), cI 80 (fun _ => 0), cI 64 (fun _ => 0), cI 64 (fun _ => 0), cI 64 (fun _ => 0), cI 1100 (fun _ => 0), cI 1100 (fun _ => 0), cI 1100 (fun _ => 0), cL 3300 (fun _ => 0), cL 3300 (fun _ => 0), cL 3300 (fun _ => 0), cL 3 (fun _ => 0), cL 3 (fun _ => 0)]) (a + 16) rfl rfl (by decide) (by decide) (by decide) (Nat.le_of_ble_eq_true rfl) (Nat.le_of_ble_eq_true rfl) d_X10_init_133 ?_
  refine x_putF 23 (.array .long) pf_X10_56 rfl (ex_at0 rfl) rfl rfl (Nat.le_of_ble_eq_true rfl) d_X10_init_135 ?_
  refine X.world (w2 := ex w a [cO 10 [.ref (a + 1), .ref (a + 2), .int 0, .ref (a + 3), .ref (a + 4), .ref (a + 5), .int 0, .ref (a + 6), .ref (a + 7), .ref (a + 8), .int 0, .ref (a + 9), .ref (a + 10), .ref (a + 11), .ref (a + 12), .ref (a + 13), .ref (a + 14), .int 0, .int 0, .int 0, .int 0, .int 0, .ref (a + 15), .ref (a + 16), .null, .null, .null, .null, .null, .int 0, .int 0], cI 812 (fun _ => 0), cI 3248 (fun _ => 0), cI 1624 (fun _ => 0), cI 2 (fun _ => 0), cI 80 (fun _ => 0), cI 64 (fun _ => 0), cI 64 (fun _ => 0), cI 64 (fun _ => 0), cI 1100 (fun _ => 0), cI 1100 (fun _ => 0), cI 1100 (fun _ => 0), cL 3300 (fun _ => 0), cL 3300 (fun _ => 0), cL 3300 (fun _ => 0), cL 3 (fun _ => 0), cL 3 (fun _ => 0)]) (ex_hset0 (Nat.le_of_ble_eq_true rfl) rfl) ?_
  refine x_aload_n 0 d_X10_init_138 rfl rfl ?_
  refine x_iconst (v := (3 : Int32)) d_X10_init_139 (by decide) ?_
  refine x_newJE (cl2 := [cO 10 [.ref (a + 1), .ref (a + 2), .int 0, .ref (a + 3), .ref (a + 4), .ref (a + 5), .int 0, .ref (a + 6), .ref (a + 7), .ref (a + 8), .int 0, .ref (a + 9), .ref (a + 10), .ref (a + 11), .ref (a + 12), .ref (a + 13), .ref (a + 14), .int 0, .int 0, .int 0, .int 0, .int 0, .ref (a + 15), .ref (a + 16), .null, .null, .null, .null, .null, .int 0, .int 0], cI 812 (fun _ => 0), cI 3248 (fun _ => 0), cI 1624 (fun _ => 0), cI 2 (fun _ => 0), cI 80 (fun _ => 0), cI 64 (fun _ => 0), cI 64 (fun _ => 0), cI 64 (fun _ => 0), cI 1100 (fun _ => 0), cI 1100 (fun _ => 0), cI 1100 (fun _ => 0), cL 3300 (fun _ => 0), cL 3300 (fun _ => 0), cL 3300 (fun _ => 0), cL 3 (fun _ => 0), cL 3 (fun _ => 0), cL 3 (fun _ => 0)]) (a + 17) rfl rfl (by decide) (by decide) (by decide) (Nat.le_of_ble_eq_true rfl) (Nat.le_of_ble_eq_true rfl) d_X10_init_140 ?_
  refine x_putF 24 (.array .long) pf_X10_59 rfl (ex_at0 rfl) rfl rfl (Nat.le_of_ble_eq_true rfl) d_X10_init_142 ?_
  refine X.world (w2 := ex w a [cO 10 [.ref (a + 1), .ref (a + 2), .int 0, .ref (a + 3), .ref (a + 4), .ref (a + 5), .int 0, .ref (a + 6), .ref (a + 7), .ref (a + 8), .int 0, .ref (a + 9), .ref (a + 10), .ref (a + 11), .ref (a + 12), .ref (a + 13), .ref (a + 14), .int 0, .int 0, .int 0, .int 0, .int 0, .ref (a + 15), .ref (a + 16), .ref (a + 17), .null, .null, .null, .null, .int 0, .int 0], cI 812 (fun _ => 0), cI 3248 (fun _ => 0), cI 1624 (fun _ => 0), cI 2 (fun _ => 0), cI 80 (fun _ => 0), cI 64 (fun _ => 0), cI 64 (fun _ => 0), cI 64 (fun _ => 0), cI 1100 (fun _ => 0), cI 1100 (fun _ => 0), cI 1100 (fun _ => 0), cL 3300 (fun _ => 0), cL 3300 (fun _ => 0), cL 3300 (fun _ => 0), cL 3 (fun _ => 0), cL 3 (fun _ => 0), cL 3 (fun _ => 0)]) (ex_hset0 (Nat.le_of_ble_eq_true rfl) rfl) ?_
  refine x_aload_n 0 d_X10_init_145 rfl rfl ?_
  refine x_iconst (v := (3 : Int32)) d_X10_init_146 (by decide) ?_
  refine x_newJE (cl2 := [cO 10 [.ref (a + 1), .ref (a + 2), .int 0, .ref (a + 3), .ref (a + 4), .ref (a + 5), .int 0, .ref (a + 6), .ref (a + 7), .ref (a + 8), .int 0, .ref (a + 9), .ref (a + 10), .ref (a + 11), .ref (a + 12), .ref (a + 13), .ref (a + 14), .int 0, .int 0, .int 0, .int 0, .int 0, .ref (a + 15), .ref (a + 16), .ref (a + 17), .null, .null, .null, .null, .int 0, .int 0], cI 812 (fun _ => 0), cI 3248 (fun _ => 0), cI 1624 (fun _ => 0), cI 2 (fun _ => 0), cI 80 (fun _ => 0), cI 64 (fun _ => 0), cI 64 (fun _ => 0), cI 64 (fun _ => 0), cI 1100 (fun _ => 0), cI 1100 (fun _ => 0), cI 1100 (fun _ => 0), cL 3300 (fun _ => 0), cL 3300 (fun _ => 0), cL 3300 (fun _ => 0), cL 3 (fun _ => 0), cL 3 (fun _ => 0), cL 3 (fun _ => 0), cL 3 (fun _ => 0)]) (a + 18) rfl rfl (by decide) (by decide) (by decide) (Nat.le_of_ble_eq_true rfl) (Nat.le_of_ble_eq_true rfl) d_X10_init_147 ?_
  refine x_putF 25 (.array .long) pf_X10_62 rfl (ex_at0 rfl) rfl rfl (Nat.le_of_ble_eq_true rfl) d_X10_init_149 ?_
  refine X.world (w2 := ex w a [cO 10 [.ref (a + 1), .ref (a + 2), .int 0, .ref (a + 3), .ref (a + 4), .ref (a + 5), .int 0, .ref (a + 6), .ref (a + 7), .ref (a + 8), .int 0, .ref (a + 9), .ref (a + 10), .ref (a + 11), .ref (a + 12), .ref (a + 13), .ref (a + 14), .int 0, .int 0, .int 0, .int 0, .int 0, .ref (a + 15), .ref (a + 16), .ref (a + 17), .ref (a + 18), .null, .null, .null, .int 0, .int 0], cI 812 (fun _ => 0), cI 3248 (fun _ => 0), cI 1624 (fun _ => 0), cI 2 (fun _ => 0), cI 80 (fun _ => 0), cI 64 (fun _ => 0), cI 64 (fun _ => 0), cI 64 (fun _ => 0), cI 1100 (fun _ => 0), cI 1100 (fun _ => 0), cI 1100 (fun _ => 0), cL 3300 (fun _ => 0), cL 3300 (fun _ => 0), cL 3300 (fun _ => 0), cL 3 (fun _ => 0), cL 3 (fun _ => 0), cL 3 (fun _ => 0), cL 3 (fun _ => 0)]) (ex_hset0 (Nat.le_of_ble_eq_true rfl) rfl) ?_
  refine x_aload_n 0 d_X10_init_152 rfl rfl ?_
  refine x_iconst (v := (3 : Int32)) d_X10_init_153 (by decide) ?_
  refine x_newJE (cl2 := [cO 10 [.ref (a + 1), .ref (a + 2), .int 0, .ref (a + 3), .ref (a + 4), .ref (a + 5), .int 0, .ref (a + 6), .ref (a + 7), .ref (a + 8), .int 0, .ref (a + 9), .ref (a + 10), .ref (a + 11), .ref (a + 12), .ref (a + 13), .ref (a + 14), .int 0, .int 0, .int 0, .int 0, .int 0, .ref (a + 15), .ref (a + 16), .ref (a + 17), .ref (a + 18), .null, .null, .null, .int 0, .int 0], cI 812 (fun _ => 0), cI 3248 (fun _ => 0), cI 1624 (fun _ => 0), cI 2 (fun _ => 0), cI 80 (fun _ => 0), cI 64 (fun _ => 0), cI 64 (fun _ => 0), cI 64 (fun _ => 0), cI 1100 (fun _ => 0), cI 1100 (fun _ => 0), cI 1100 (fun _ => 0), cL 3300 (fun _ => 0), cL 3300 (fun _ => 0), cL 3300 (fun _ => 0), cL 3 (fun _ => 0), cL 3 (fun _ => 0), cL 3 (fun _ => 0), cL 3 (fun _ => 0), cL 3 (fun _ => 0)]) (a + 19) rfl rfl (by decide) (by decide) (by decide) (Nat.le_of_ble_eq_true rfl) (Nat.le_of_ble_eq_true rfl) d_X10_init_154 ?_
  refine x_putF 26 (.array .long) pf_X10_65 rfl (ex_at0 rfl) rfl rfl (Nat.le_of_ble_eq_true rfl) d_X10_init_156 ?_
  refine X.world (w2 := ex w a [cO 10 [.ref (a + 1), .ref (a + 2), .int 0, .ref (a + 3), .ref (a + 4), .ref (a + 5), .int 0, .ref (a + 6), .ref (a + 7), .ref (a + 8), .int 0, .ref (a + 9), .ref (a + 10), .ref (a + 11), .ref (a + 12), .ref (a + 13), .ref (a + 14), .int 0, .int 0, .int 0, .int 0, .int 0, .ref (a + 15), .ref (a + 16), .ref (a + 17), .ref (a + 18), .ref (a + 19), .null, .null, .int 0, .int 0], cI 812 (fun _ => 0), cI 3248 (fun _ => 0), cI 1624 (fun _ => 0), cI 2 (fun _ => 0), cI 80 (fun _ => 0), cI 64 (fun _ => 0), cI 64 (fun _ => 0), cI 64 (fun _ => 0), cI 1100 (fun _ => 0), cI 1100 (fun _ => 0), cI 1100 (fun _ => 0), cL 3300 (fun _ => 0), cL 3300 (fun _ => 0), cL 3300 (fun _ => 0), cL 3 (fun _ => 0), cL 3 (fun _ => 0), cL 3 (fun _ => 0), cL 3 (fun _ => 0), cL 3 (fun _ => 0)]) (ex_hset0 (Nat.le_of_ble_eq_true rfl) rfl) ?_
  refine x_aload_n 0 d_X10_init_159 rfl rfl ?_
  refine x_bipush (v := (80 : Int32)) d_X10_init_160 (by decide) ?_
  refine x_newJE (cl2 := [cO 10 [.ref (a + 1), .ref (a + 2), .int 0, .ref (a + 3), .ref (a + 4), .ref (a + 5), .int 0, .ref (a + 6), .ref (a + 7), .ref (a + 8), .int 0, .ref (a + 9), .ref (a + 10), .ref (a + 11), .ref (a + 12), .ref (a + 13), .ref (a + 14), .int 0, .int 0, .int 0, .int 0, .int 0, .ref (a + 15), .ref (a + 16), .ref (a + 17), .ref (a + 18), .ref (a + 19), .null, .null, .int 0, .int 0], cI 812 (fun _ => 0), cI 3248 (fun _ => 0), cI 1624 (fun _ => 0), cI 2 (fun _ => 0), cI 80 (fun _ => 0), cI 64 (fun _ => 0), cI 64 (fun _ => 0), cI 64 (fun _ => 0), cI 1100 (fun _ => 0), cI 1100 (fun _ => 0), cI 1100 (fun _ => 0), cL 3300 (fun _ => 0), cL 3300 (fun _ => 0), cL 3300 (fun _ => 0), cL 3 (fun _ => 0), cL 3 (fun _ => 0), cL 3 (fun _ => 0), cL 3 (fun _ => 0), cL 3 (fun _ => 0), cL 80 (fun _ => 0)]) (a + 20) rfl rfl (by decide) (by decide) (by decide) (Nat.le_of_ble_eq_true rfl) (Nat.le_of_ble_eq_true rfl) d_X10_init_162 ?_
  refine x_putF 27 (.array .long) pf_X10_68 rfl (ex_at0 rfl) rfl rfl (Nat.le_of_ble_eq_true rfl) d_X10_init_164 ?_
  refine X.world (w2 := ex w a [cO 10 [.ref (a + 1), .ref (a + 2), .int 0, .ref (a + 3), .ref (a + 4), .ref (a + 5), .int 0, .ref (a + 6), .ref (a + 7), .ref (a + 8), .int 0, .ref (a + 9), .ref (a + 10), .ref (a + 11), .ref (a + 12), .ref (a + 13), .ref (a + 14), .int 0, .int 0, .int 0, .int 0, .int 0, .ref (a + 15), .ref (a + 16), .ref (a + 17), .ref (a + 18), .ref (a + 19), .ref (a + 20), .null, .int 0, .int 0], cI 812 (fun _ => 0), cI 3248 (fun _ => 0), cI 1624 (fun _ => 0), cI 2 (fun _ => 0), cI 80 (fun _ => 0), cI 64 (fun _ => 0), cI 64 (fun _ => 0), cI 64 (fun _ => 0), cI 1100 (fun _ => 0), cI 1100 (fun _ => 0), cI 1100 (fun _ => 0), cL 3300 (fun _ => 0), cL 3300 (fun _ => 0), cL 3300 (fun _ => 0), cL 3 (fun _ => 0), cL 3 (fun _ => 0), cL 3 (fun _ => 0), cL 3 (fun _ => 0), cL 3 (fun _ => 0), cL 80 (fun _ => 0)]) (ex_hset0 (Nat.le_of_ble_eq_true rfl) rfl) ?_
  refine x_aload_n 0 d_X10_init_167 rfl rfl ?_
  refine x_sipush (v := (160 : Int32)) d_X10_init_168 (by decide) ?_
  refine x_newIE (cl2 := [cO 10 [.ref (a + 1), .ref (a + 2), .int 0, .ref (a + 3), .ref (a + 4), .ref (a + 5), .int 0, .ref (a + 6), .ref (a + 7), .ref (a + 8), .int 0, .ref (a + 9), .ref (a + 10), .ref (a + 11), .ref (a + 12), .ref (a + 13), .ref (a + 14), .int 0, .int 0, .int 0, .int 0, .int 0, .ref (a + 15), .ref (a + 16), .ref (a + 17), .ref (a + 18), .ref (a + 19), .ref (a + 20), .null, .int 0, .int 0], cI 812 (fun _ => 0), cI 3248 (fun _ => 0), cI 1624 (fun _ => 0), cI 2 (fun _ => 0), cI 80 (fun _ => 0), cI 64 (fun _ => 0), cI 64 (fun _ => 0), cI 64 (fun _ => 0), cI 1100 (fun _ => 0), cI 1100 (fun _ => 0), cI 1100 (fun _ => 0), cL 3300 (fun _ => 0), cL 3300 (fun _ => 0), cL 3300 (fun _ => 0), cL 3 (fun _ => 0), cL 3 (fun _ => 0), cL 3 (fun _ => 0), cL 3 (fun _ => 0), cL 3 (fun _ => 0), cL 80 (fun _ => 0), cI 160 (fun _ => 0)]) (a + 21) rfl rfl (by decide) (by decide) (by decide) (Nat.le_of_ble_eq_true rfl) (Nat.le_of_ble_eq_true rfl) d_X10_init_171 ?_
  refine x_putF 28 (.array .int) pf_X10_71 rfl (ex_at0 rfl) rfl rfl (Nat.le_of_ble_eq_true rfl) d_X10_init_173 ?_
  refine X.world (w2 := ex w a [cO 10 [.ref (a + 1), .ref (a + 2), .int 0, .ref (a + 3), .ref (a + 4), .ref (a + 5), .int 0, .ref (a + 6), .ref (a + 7), .ref (a + 8), .int 0, .ref (a + 9), .ref (a + 10), .ref (a + 11), .ref (a + 12), .ref (a + 13), .ref (a + 14), .int 0, .int 0, .int 0, .int 0, .int 0, .ref (a + 15), .ref (a + 16), .ref (a + 17), .ref (a + 18), .ref (a + 19), .ref (a + 20), .ref (a + 21), .int 0, .int 0], cI 812 (fun _ => 0), cI 3248 (fun _ => 0), cI 1624 (fun _ => 0), cI 2 (fun _ => 0), cI 80 (fun _ => 0), cI 64 (fun _ => 0), cI 64 (fun _ => 0), cI 64 (fun _ => 0), cI 1100 (fun _ => 0), cI 1100 (fun _ => 0), cI 1100 (fun _ => 0), cL 3300 (fun _ => 0), cL 3300 (fun _ => 0), cL 3300 (fun _ => 0), cL 3 (fun _ => 0), cL 3 (fun _ => 0), cL 3 (fun _ => 0), cL 3 (fun _ => 0), cL 3 (fun _ => 0), cL 80 (fun _ => 0), cI 160 (fun _ => 0)]) (ex_hset0 (Nat.le_of_ble_eq_true rfl) rfl) ?_
  refine X.world (ex_put (n := 22) (g := shM a s0M) rfl (lt_s (lt_s (lt_s (lt_s (lt_s (lt_s (lt_s (lt_s (lt_s (lt_s (lt_s (lt_s (lt_s (lt_s (lt_s (lt_s (lt_s (lt_s (lt_s (lt_s (lt_s (lt_s lt_0 rfl) rfl) rfl) rfl) rfl) rfl) rfl) rfl) rfl) rfl) rfl) rfl) rfl) rfl) rfl) rfl) rfl) rfl) rfl) rfl) rfl) rfl)) ?_
  have h := jt_X10_initR (G := G) (l := l) (d := d) (w := (w.1, a + 22)) (a := a) (by omega) hQ
  have e : ∀ z0, put ((w.1, a + 22) : HW) a 22 (shM a z0) = put (w.1, a + 22) a 22 (shM a z0) := fun _ => rfl
  exact h
