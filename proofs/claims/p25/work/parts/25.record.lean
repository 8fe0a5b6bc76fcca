set_option maxHeartbeats 4000000 in
theorem sph_X2_dropOldest {G : GX} {l : Launch} {d x : Nat} {w : HW} {t c r p : RT} {ct : Int32} {kp : Nat → Option Nat} {kr : Nat → RT} {sl : Nat → Option Nat} {sr : Nat → RT} {b0 b1 b2 b3 : Nat} (hX : XW w x t c r p ct kp kr sl sr) (h0 : kp 0 = some b0) (h1 : kp 1 = some b1) (h2 : kp 2 = some b2) (h3 : kp 3 = some b3) : Sp G l m_X2_dropOldest d 0 0 [.ref (x + 23)] w (fun r9 w2 => r9 = none ∧ XW w2 x t c r p (nI 4 - 1) (rotK kp) (rotR kr) sl sr ∧ Out x w w2) := by
  refine Sp.ofX k_X2_dropOldest.1.1 (Nat.le_of_ble_eq_true rfl) ?_
  refine X.lv (lv2 := [(0, .ref (x + 23))]) rfl ?_
  have hL := hX.hL
  refine x_aload_n 0 d_X2_dropOldest_0 rfl rfl ?_
  refine x_getf 0 gf_X2_11 hX.hK0 rfl d_X2_dropOldest_1 ?_
  refine x_alenR hX.hK1 d_X2_dropOldest_4 ?_
  refine x_if_ne (tgt := 9) d_X2_dropOldest_5 (by decide) (fun _ => ?_) (fun c => absurd c (by decide))
  refine x_aload_n 0 d_X2_dropOldest_9 rfl rfl ?_
  refine x_getf 0 gf_X2_11 hX.hK0 rfl d_X2_dropOldest_10 ?_
  refine x_iconst (v := (0 : Int32)) d_X2_dropOldest_13 (by decide) ?_
  refine x_aaldS 0 rfl h0 hX.hK1 (by unfold vp_in; decide) d_X2_dropOldest_14 ?_
  refine x_astore_n (lv2 := [(1, .ref b0), (0, .ref (x + 23))]) d_X2_dropOldest_15 rfl (by decide) rfl ?_
  refine x_iconst (v := (1 : Int32)) d_X2_dropOldest_16 (by decide) ?_
  refine x_istore_n (lv2 := [(2, .int (1 : Int32)), (1, .ref b0), (0, .ref (x + 23))]) d_X2_dropOldest_17 rfl (by decide) rfl ?_
  refine x_iload_n 0 d_X2_dropOldest_18 rfl rfl ?_
  refine x_aload_n 2 d_X2_dropOldest_19 rfl rfl ?_
  refine x_getf 0 gf_X2_11 hX.hK0 rfl d_X2_dropOldest_20 ?_
  refine x_alenR hX.hK1 d_X2_dropOldest_23 ?_
  refine x_icmp_ge (tgt := 47) d_X2_dropOldest_24 (by decide) (fun c => absurd c (by decide)) (fun _ => ?_)
  refine x_aload_n 2 d_X2_dropOldest_27 rfl rfl ?_
  refine x_getf 0 gf_X2_11 hX.hK0 rfl d_X2_dropOldest_28 ?_
  refine x_iload_n 0 d_X2_dropOldest_31 rfl rfl ?_
  refine x_iconst (v := (1 : Int32)) d_X2_dropOldest_32 (by decide) ?_
  refine x_isub d_X2_dropOldest_33 ?_
  refine x_aload_n 2 d_X2_dropOldest_34 rfl rfl ?_
  refine x_getf 0 gf_X2_11 hX.hK0 rfl d_X2_dropOldest_35 ?_
  refine x_iload_n 0 d_X2_dropOldest_38 rfl rfl ?_
  refine x_aaldS 1 rfl (by exact h1) hX.hK1 (by unfold vp_in; decide) d_X2_dropOldest_39 ?_
  refine x_aastE 0 rfl hX.hK1 ((hL.1 1 b1 (by decide) h1).2.2 0 (by decide)) (by unfold vp_in; decide) d_X2_dropOldest_40 ?_
  refine x_iinc (v := (2 : Int32)) (lv2 := [(2, .int (2 : Int32)), (1, .ref b0), (0, .ref (x + 23))]) 0 d_X2_dropOldest_41 rfl (by decide) (by decide) rfl ?_
  refine x_goto (tgt := 18) d_X2_dropOldest_44 (by decide) ?_
  refine x_iload_n 0 d_X2_dropOldest_18 rfl rfl ?_
  refine x_aload_n 2 d_X2_dropOldest_19 rfl rfl ?_
  refine x_getf 0 gf_X2_11 (hset_ne (by omega) hX.hK0) rfl d_X2_dropOldest_20 ?_
  refine x_alenR hset_at d_X2_dropOldest_23 ?_
  refine x_icmp_ge (tgt := 47) d_X2_dropOldest_24 (by decide) (fun c => absurd c (by decide)) (fun _ => ?_)
  refine x_aload_n 2 d_X2_dropOldest_27 rfl rfl ?_
  refine x_getf 0 gf_X2_11 (hset_ne (by omega) hX.hK0) rfl d_X2_dropOldest_28 ?_
  refine x_iload_n 0 d_X2_dropOldest_31 rfl rfl ?_
  refine x_iconst (v := (1 : Int32)) d_X2_dropOldest_32 (by decide) ?_
  refine x_isub d_X2_dropOldest_33 ?_
  refine x_aload_n 2 d_X2_dropOldest_34 rfl rfl ?_
  refine x_getf 0 gf_X2_11 (hset_ne (by omega) hX.hK0) rfl d_X2_dropOldest_35 ?_
  refine x_iload_n 0 d_X2_dropOldest_38 rfl rfl ?_
  refine x_aaldS 2 rfl (by exact h2) hset_at (by unfold vp_in; decide) d_X2_dropOldest_39 ?_
  refine x_aastE 1 rfl hset_at ((hset_ne (by have h9 := (hL.1 2 b2 (by decide) h2).1; omega) ((hL.1 2 b2 (by decide) h2).2.2 0 (by decide)))) (by unfold vp_in; decide) d_X2_dropOldest_40 ?_
  refine X.world (w2 := hset w (x + 23 + 1) (cR 4 (va_up (va_up kp 0 (some b1)) 1 (some b2)))) hset_hset ?_
  refine x_iinc (v := (3 : Int32)) (lv2 := [(2, .int (3 : Int32)), (1, .ref b0), (0, .ref (x + 23))]) 0 d_X2_dropOldest_41 rfl (by decide) (by decide) rfl ?_
  refine x_goto (tgt := 18) d_X2_dropOldest_44 (by decide) ?_
  refine x_iload_n 0 d_X2_dropOldest_18 rfl rfl ?_
  refine x_aload_n 2 d_X2_dropOldest_19 rfl rfl ?_
  refine x_getf 0 gf_X2_11 (hset_ne (by omega) hX.hK0) rfl d_X2_dropOldest_20 ?_
  refine x_alenR hset_at d_X2_dropOldest_23 ?_
  refine x_icmp_ge (tgt := 47) d_X2_dropOldest_24 (by decide) (fun c => absurd c (by decide)) (fun _ => ?_)
  refine x_aload_n 2 d_X2_dropOldest_27 rfl rfl ?_
  refine x_getf 0 gf_X2_11 (hset_ne (by omega) hX.hK0) rfl d_X2_dropOldest_28 ?_
  refine x_iload_n 0 d_X2_dropOldest_31 rfl rfl ?_
  refine x_iconst (v := (1 : Int32)) d_X2_dropOldest_32 (by decide) ?_
  refine x_isub d_X2_dropOldest_33 ?_
  refine x_aload_n 2 d_X2_dropOldest_34 rfl rfl ?_
  refine x_getf 0 gf_X2_11 (hset_ne (by omega) hX.hK0) rfl d_X2_dropOldest_35 ?_
  refine x_iload_n 0 d_X2_dropOldest_38 rfl rfl ?_
  refine x_aaldS 3 rfl (by exact h3) hset_at (by unfold vp_in; decide) d_X2_dropOldest_39 ?_
  refine x_aastE 2 rfl hset_at ((hset_ne (by have h9 := (hL.1 3 b3 (by decide) h3).1; omega) ((hL.1 3 b3 (by decide) h3).2.2 0 (by decide)))) (by unfold vp_in; decide) d_X2_dropOldest_40 ?_
  refine X.world (w2 := hset w (x + 23 + 1) (cR 4 (va_up (va_up (va_up kp 0 (some b1)) 1 (some b2)) 2 (some b3)))) hset_hset ?_
  refine x_iinc (v := (4 : Int32)) (lv2 := [(2, .int (4 : Int32)), (1, .ref b0), (0, .ref (x + 23))]) 0 d_X2_dropOldest_41 rfl (by decide) (by decide) rfl ?_
  refine x_goto (tgt := 18) d_X2_dropOldest_44 (by decide) ?_
  refine x_iload_n 0 d_X2_dropOldest_18 rfl rfl ?_
  refine x_aload_n 2 d_X2_dropOldest_19 rfl rfl ?_
  refine x_getf 0 gf_X2_11 (hset_ne (by omega) hX.hK0) rfl d_X2_dropOldest_20 ?_
  refine x_alenR hset_at d_X2_dropOldest_23 ?_
  refine x_icmp_ge (tgt := 47) d_X2_dropOldest_24 (by decide) (fun _ => ?_) (fun c => absurd c (by decide))
  refine x_aload_n 2 d_X2_dropOldest_47 rfl rfl ?_
  refine x_getf 0 gf_X2_11 (hset_ne (by omega) hX.hK0) rfl d_X2_dropOldest_48 ?_
  refine x_aload_n 2 d_X2_dropOldest_51 rfl rfl ?_
  refine x_getf 0 gf_X2_11 (hset_ne (by omega) hX.hK0) rfl d_X2_dropOldest_52 ?_
  refine x_alenR hset_at d_X2_dropOldest_55 ?_
  refine x_iconst (v := (1 : Int32)) d_X2_dropOldest_56 (by decide) ?_
  refine x_isub d_X2_dropOldest_57 ?_
  refine x_aload_n 1 d_X2_dropOldest_58 rfl rfl ?_
  refine x_aastE 3 rfl hset_at (hset_ne (by have h9 := (hL.1 0 b0 (by decide) h0).1; omega) ((hL.1 0 b0 (by decide) h0).2.2 0 (by decide))) (by unfold vp_in; decide) d_X2_dropOldest_59 ?_
  have er : va_up (va_up (va_up (va_up kp 0 (some b1)) 1 (some b2)) 2 (some b3)) 3 (some b0) = rotK kp := by unfold rotK; rw [h0, h1, h2, h3]
  refine X.world (w2 := hset w (x + 23 + 1) (cR 4 (rotK kp))) (by rw [hset_hset, er]) ?_
  have hX := hX.rot
  refine x_aload_n 2 d_X2_dropOldest_60 rfl rfl ?_
  refine x_aload_n 2 d_X2_dropOldest_61 rfl rfl ?_
  refine x_getf 0 gf_X2_11 hX.hK0 rfl d_X2_dropOldest_62 ?_
  refine x_alenR hX.hK1 d_X2_dropOldest_65 ?_
  refine x_iconst (v := (1 : Int32)) d_X2_dropOldest_66 (by decide) ?_
  refine x_isub d_X2_dropOldest_67 ?_
  refine x_putf 1 (.int) pf_X2_17 hX.hK0 rfl rfl (Nat.le_of_ble_eq_true rfl) d_X2_dropOldest_68 ?_
  exact x_vret (retV d_X2_dropOldest_71 rfl) ⟨rfl, hX.setK, (Out.rf.hset (by omega) (by omega)).hset (by omega) (by omega)⟩
theorem exS {w : HW} : ex w w.2 [cO 6 [.ref (w.2 + 1), .ref (w.2 + 5), .ref (w.2 + 8), .ref (w.2 + 12), .ref (w.2 + 13), .ref (w.2 + 17)], cO 5 [.ref ((w.2 + 1) + 1), .ref ((w.2 + 1) + 2), .ref ((w.2 + 1) + 3)], cI 240 (fun _ => 0), cI 3 (fun _ => 0), cI 3 (fun _ => 0), cO 3 [.ref ((w.2 + 5) + 1), .ref ((w.2 + 5) + 2)], cI 3 (fun _ => 0), cI 3 (fun _ => 0), cO 1 [.ref ((w.2 + 8) + 1), .ref ((w.2 + 8) + 2), .ref ((w.2 + 8) + 3)], cI 3 (fun _ => 0), cI 18 (fun _ => 0), cI 18 (fun _ => 0), cI 3 (upd (upd (upd (fun _ => 0) ((0 : Int32)).toNatClampNeg (100 : Int32)) ((1 : Int32)).toNatClampNeg (1 : Int32)) ((2 : Int32)).toNatClampNeg (2 : Int32)), cO 0 [.ref ((w.2 + 13) + 1), .ref ((w.2 + 13) + 2), .ref ((w.2 + 13) + 3), .int (1 : Int32)], cI 40 (fun _ => 0), cI 40 (fun _ => 0), cI 40 (fun _ => 0), cO 4 [.ref ((w.2 + 17) + 1), .int 0], cI 7688 (fun _ => 0)] = put (w.1, w.2 + 19) w.2 19 (shS w.2 s0S) := ex_put (n := 19) (g := shS w.2 s0S) rfl (lt_s (lt_s (lt_s (lt_s (lt_s (lt_s (lt_s (lt_s (lt_s (lt_s (lt_s (lt_s (lt_s (lt_s (lt_s (lt_s (lt_s (lt_s (lt_s lt_0 rfl) rfl) rfl) rfl) rfl) rfl) rfl) rfl) rfl) rfl) rfl) rfl) rfl) rfl) rfl) rfl) rfl) rfl) rfl)
def wp_rec1 (ct : Int32) (kp : Nat → Option Nat) (kr : Nat → RT) (c : RT) (K : Int32 → (Nat → Option Nat) → (Nat → RT) → Prop) : Prop :=
  ¬ ct < 0 ∧ ct < nI 4 ∧ (kp ct.toNatClampNeg = none → wp_X6_copyFrom c s0S (fun s => ∀ b : Nat, K (ct + 1) (va_up kp ct.toNatClampNeg (some b)) (va_up kr ct.toNatClampNeg s))) ∧ (∀ b : Nat, kp ct.toNatClampNeg = some b → wp_X6_copyFrom c (kr ct.toNatClampNeg) (fun s => K (ct + 1) kp (va_up kr ct.toNatClampNeg s)))
def wp_X2_record (ct : Int32) (kp : Nat → Option Nat) (kr : Nat → RT) (c : RT) (K : Int32 → (Nat → Option Nat) → (Nat → RT) → Prop) : Prop :=
  (ct < nI 4 → wp_rec1 ct kp kr c K) ∧ (¬ ct < nI 4 → (∀ j, j < 4 → ∃ b, kp j = some b) ∧ wp_rec1 (nI 4 - 1) (rotK kp) (rotR kr) c K)
def wp_X2_giveBack (ct : Int32) (kp : Nat → Option Nat) (kr : Nat → RT) (c : RT) (K : Int32 → Int32 → RT → Prop) : Prop :=
  (ct ≤ 0 → K 0 ct c) ∧ (¬ ct ≤ 0 → (ct ≤ nI 4 → (∃ b : Nat, kp (ct - 1).toNatClampNeg = some b) ∧ wp_X6_copyFrom (kr (ct - 1).toNatClampNeg) c (fun s => K 1 (ct - 1) s)) ∧ (¬ ct ≤ nI 4 → K 0 ct c))
theorem ct_in {ct : Int32} (h1 : ¬ ct < 0) (h2 : ct < nI 4) : ct.toNatClampNeg < 4 ∧ vp_in ct 4 := by
  obtain ⟨j, hj, rfl⟩ := nI_of h1
  have h3 := (nI_ltI hj (by decide)).mp h2
  exact ⟨by rw [nI_clamp hj]; exact h3, vp_in_nI h3 (by decide)⟩
set_option maxHeartbeats 4000000 in
set_option maxRecDepth 4000 in
theorem jt_X2_record_16 {G : GX} {l : Launch} {d x : Nat} {w : HW} {t c r p : RT} {ct : Int32} {kp : Nat → Option Nat} {kr : Nat → RT} {sl : Nat → Option Nat} {sr : Nat → RT} {wa : HW} {K : Int32 → (Nat → Option Nat) → (Nat → RT) → Prop} (hd : 5 ≤ d) (hX : XW w x t c r p ct kp kr sl sr) (hF : Out x wa w) (hQ : wp_rec1 ct kp kr c K) : X G l m_X2_record d 19 8122 0 0 16 [(0, .ref (x + 23)), (1, .ref (x + 4))] [] w (fun r9 w2 => ∃ (z_ct : Int32) (z_kp : Nat → Option Nat) (z_kr : Nat → RT), r9 = none ∧ XW w2 x t c r p z_ct z_kp z_kr sl sr ∧ Out x wa w2 ∧ K z_ct z_kp z_kr) := by
  obtain ⟨q1, q2, qn, qs⟩ := hQ
  have hX0 := hX.h2
  refine x_aload_n 0 d_X2_record_16 rfl rfl ?_
  refine x_getf 1 gf_X2_17 hX.hK0 rfl d_X2_record_17 ?_
  refine x_if_lt (tgt := 35) d_X2_record_20 (by decide) (fun c => absurd c q1) (fun _ => ?_)
  refine x_aload_n 0 d_X2_record_23 rfl rfl ?_
  refine x_getf 1 gf_X2_17 hX.hK0 rfl d_X2_record_24 ?_
  refine x_aload_n 0 d_X2_record_27 rfl rfl ?_
  refine x_getf 0 gf_X2_11 hX.hK0 rfl d_X2_record_28 ?_
  refine x_alenR hX.hK1 d_X2_record_31 ?_
  refine x_icmp_lt (tgt := 36) d_X2_record_32 (by decide) (fun _ => ?_) (fun c => absurd q2 c)
  refine x_aload_n 0 d_X2_record_36 rfl rfl ?_
  refine x_getf 0 gf_X2_11 hX.hK0 rfl d_X2_record_37 ?_
  refine x_aload_n 0 d_X2_record_40 rfl rfl ?_
  refine x_getf 1 gf_X2_17 hX.hK0 rfl d_X2_record_41 ?_
  obtain ⟨hi, hin⟩ := ct_in q1 q2
  cases hk : kp ct.toNatClampNeg with
  | none =>
    have hQ := qn hk
    refine x_aaldN _ rfl hk hX.hK1 hin d_X2_record_44 ?_
    refine x_astoreN_n (lv2 := [(2, .null), (0, .ref (x + 23)), (1, .ref (x + 4))]) d_X2_record_45 rfl (by decide) rfl ?_
    refine x_aloadN_n 0 d_X2_record_46 rfl rfl ?_
    refine x_ifnonnullN d_X2_record_47 ?_
    have h2 := hX.h2
    refine x_new [.null, .null, .null, .null, .null, .null] cl_X2_9 (lt_s (lt_s (lt_s (lt_s (lt_s (lt_s lt_0 rfl) rfl) rfl) rfl) rfl) rfl) (Nat.le_of_ble_eq_true rfl) (Nat.le_of_ble_eq_true rfl) d_X2_record_50 ?_
    refine X.world (w2 := ex w w.2 [cO 6 [.null, .null, .null, .null, .null, .null]]) (ex_one rfl) ?_
    refine x_dup d_X2_record_53 rfl ?_
    refine x_invIN (rest := [.ref w.2]) (d' := d - 1) (mc' := 18) (ms' := 8116) w.2 [] "LagSolver" k_X6_init lk_X2_24 rfl rfl (Nat.le_of_ble_eq_true rfl) (by omega) (Nat.le_of_ble_eq_true rfl) (Nat.le_of_ble_eq_true rfl) d_X2_record_54 ((spc_X6_init (d := d - 1) (by omega)).mono (fun r w2 hr => ?_))
    obtain ⟨rfl, rfl⟩ := hr
    refine X.world exS ?_
    refine x_astore_n (lv2 := [(2, .ref (w.2)), (0, .ref (x + 23)), (1, .ref (x + 4))]) d_X2_record_57 rfl (by decide) rfl ?_
    have hG := hX.grow (g := shS w.2 s0S)
    refine x_aload_n 1 d_X2_record_58 rfl rfl ?_
    refine x_getf 0 gf_X2_11 hG.hK0 rfl d_X2_record_59 ?_
    refine x_aload_n 1 d_X2_record_62 rfl rfl ?_
    refine x_getf 1 gf_X2_17 hG.hK0 rfl d_X2_record_63 ?_
    refine x_aload_n 0 d_X2_record_66 rfl rfl ?_
    refine x_aastE _ rfl hG.hK1 (put_at0 (by decide) rfl) hin d_X2_record_67 ?_
    have hX := hX.addK hi (s := s0S)
    have hF := out_grow (g := shS w.2 s0S) hF hX0
    have hF := hF.hset (a := (x + 23 + 1)) (c := cR 4 (va_up kp ct.toNatClampNeg (some w.2))) (by omega) (by omega)
    generalize hb0 : w.2 = b at hX hF h2 ⊢
    generalize hset (put (w.1, b + 19) b 19 (shS b s0S)) (x + 23 + 1) (cR 4 (va_up kp ct.toNatClampNeg (some b))) = w5 at hX hF ⊢
    have hkb : va_up kp ct.toNatClampNeg (some b) ct.toNatClampNeg = some b := by simp [va_up]
    have hZ := hX.hL.1 _ b hi hkb
    refine x_aload_n 0 d_X2_record_68 rfl rfl ?_
    refine x_aload_n 2 d_X2_record_69 rfl rfl ?_
    have hsp := sp_X6_copyFrom (G := G) (l := l) (w := w5) (b := x + 4) (t := c) (a := b) (s := s0S) (d := d - 1) (by omega) (by omega) hQ
    rw [has_eq hX.hC] at hsp
    have e9 : put w5 b 19 (shS b s0S) = w5 := has_eq (by have h8 := hZ.2.2; simpa [va_up] using h8)
    rw [e9] at hsp
    refine x_invV (rest := []) (d' := d - 1) (mc' := 0) (ms' := 0) [.ref (x + 4)] k_X6_copyFrom lk_X2_25 (hZ.2.2 0 (by decide)) rfl rfl rfl (Nat.le_of_ble_eq_true rfl) (by omega) (Nat.le_of_ble_eq_true rfl) (Nat.le_of_ble_eq_true rfl) d_X2_record_70 (hsp.mono (fun r w2 hr => ?_))
    obtain ⟨s7, rfl, rfl, hQ⟩ := hr
    have hX := hX.updK hi hkb (s := s7)
    have hF := out_putL (b := b) (n := 19) (g := shS b s7) hF h2
    have ekr : va_up (va_up kr ct.toNatClampNeg s0S) ct.toNatClampNeg s7 = va_up kr ct.toNatClampNeg s7 := by funext j; by_cases e : j = ct.toNatClampNeg <;> simp [va_up, e]
    rw [ekr] at hX
    generalize put w5 b 19 (shS b s7) = w6 at hX hF ⊢
    refine x_aload_n 1 d_X2_record_73 rfl rfl ?_
    refine x_dup d_X2_record_74 rfl ?_
    refine x_getf 1 gf_X2_17 hX.hK0 rfl d_X2_record_75 ?_
    refine x_iconst (v := (1 : Int32)) d_X2_record_78 (by decide) ?_
    refine x_iadd d_X2_record_79 ?_
    refine x_putf 1 (.int) pf_X2_17 hX.hK0 rfl rfl (Nat.le_of_ble_eq_true rfl) d_X2_record_80 ?_
    exact x_vret (retV d_X2_record_83 rfl) ⟨_, _, _, rfl, hX.setK, hF.hset (by omega) (by omega), hQ b⟩
  | some b =>
    have hQ := qs b hk
    refine x_aaldS _ rfl hk hX.hK1 hin d_X2_record_44 ?_
    refine x_astore_n (lv2 := [(2, .ref b), (0, .ref (x + 23)), (1, .ref (x + 4))]) d_X2_record_45 rfl (by decide) rfl ?_
    refine x_aload_n 0 d_X2_record_46 rfl rfl ?_
    refine x_ifnonnull (tgt := 68) d_X2_record_47 (by decide) ?_
    refine x_aload_n 0 d_X2_record_68 rfl rfl ?_
    refine x_aload_n 2 d_X2_record_69 rfl rfl ?_
    have hZ := hX.hL.1 _ b hi hk
    have hsp := sp_X6_copyFrom (G := G) (l := l) (w := w) (b := x + 4) (t := c) (a := b) (s := kr ct.toNatClampNeg) (d := d - 1) (by omega) (by have h9 := hZ.1; omega) hQ
    rw [has_eq hX.hC, has_eq hZ.2.2] at hsp
    refine x_invV (rest := []) (d' := d - 1) (mc' := 0) (ms' := 0) [.ref (x + 4)] k_X6_copyFrom lk_X2_25 (hZ.2.2 0 (by decide)) rfl rfl rfl (Nat.le_of_ble_eq_true rfl) (by omega) (Nat.le_of_ble_eq_true rfl) (Nat.le_of_ble_eq_true rfl) d_X2_record_70 (hsp.mono (fun r w2 hr => ?_))
    obtain ⟨s7, rfl, rfl, hQ⟩ := hr
    have hX := hX.updK hi hk (s := s7)
    have hF := out_putL (b := b) (n := 19) (g := shS b s7) hF hZ.1
    generalize put w b 19 (shS b s7) = w6 at hX hF ⊢
    refine x_aload_n 1 d_X2_record_73 rfl rfl ?_
    refine x_dup d_X2_record_74 rfl ?_
    refine x_getf 1 gf_X2_17 hX.hK0 rfl d_X2_record_75 ?_
    refine x_iconst (v := (1 : Int32)) d_X2_record_78 (by decide) ?_
    refine x_iadd d_X2_record_79 ?_
    refine x_putf 1 (.int) pf_X2_17 hX.hK0 rfl rfl (Nat.le_of_ble_eq_true rfl) d_X2_record_80 ?_
    exact x_vret (retV d_X2_record_83 rfl) ⟨_, _, _, rfl, hX.setK, hF.hset (by omega) (by omega), hQ⟩
set_option maxHeartbeats 4000000 in
theorem sph_X2_record {G : GX} {l : Launch} {d x : Nat} {w : HW} {t c r p : RT} {ct : Int32} {kp : Nat → Option Nat} {kr : Nat → RT} {sl : Nat → Option Nat} {sr : Nat → RT} {K : Int32 → (Nat → Option Nat) → (Nat → RT) → Prop} (hd : 5 ≤ d) (hX : XW w x t c r p ct kp kr sl sr) (hQ : wp_X2_record ct kp kr c K) : Sp G l m_X2_record d 19 8122 [.ref (x + 23), .ref (x + 4)] w (fun r9 w2 => ∃ (z_ct : Int32) (z_kp : Nat → Option Nat) (z_kr : Nat → RT), r9 = none ∧ XW w2 x t c r p z_ct z_kp z_kr sl sr ∧ Out x w w2 ∧ K z_ct z_kp z_kr) := by
  refine Sp.ofX k_X2_record.1.1 (Nat.le_of_ble_eq_true rfl) ?_
  refine X.lv (lv2 := [(0, .ref (x + 23)), (1, .ref (x + 4))]) rfl ?_
  refine x_aload_n 0 d_X2_record_0 rfl rfl ?_
  refine x_getf 1 gf_X2_17 hX.hK0 rfl d_X2_record_1 ?_
  refine x_aload_n 0 d_X2_record_4 rfl rfl ?_
  refine x_getf 0 gf_X2_11 hX.hK0 rfl d_X2_record_5 ?_
  refine x_alenR hX.hK1 d_X2_record_8 ?_
  refine x_icmp_lt (tgt := 16) d_X2_record_9 (by decide) (fun q => ?_) (fun q => ?_)
  · exact jt_X2_record_16 hd hX Out.rf (hQ.1 q)
  · obtain ⟨hall, hQ⟩ := hQ.2 q
    obtain ⟨b0, h0⟩ := hall 0 (by decide)
    obtain ⟨b1, h1⟩ := hall 1 (by decide)
    obtain ⟨b2, h2⟩ := hall 2 (by decide)
    obtain ⟨b3, h3⟩ := hall 3 (by decide)
    refine x_aload_n 0 d_X2_record_12 rfl rfl ?_
    refine x_invV (rest := []) (d' := d - 1) (mc' := 0) (ms' := 0) [] k_X2_dropOldest lk_X2_21 hX.hK0 rfl rfl rfl (Nat.le_of_ble_eq_true rfl) (by omega) (Nat.le_of_ble_eq_true rfl) (Nat.le_of_ble_eq_true rfl) d_X2_record_13 ((sph_X2_dropOldest (d := d - 1) hX h0 h1 h2 h3).mono (fun r w2 hr => ?_))
    obtain ⟨rfl, hX, hF⟩ := hr
    exact jt_X2_record_16 hd hX hF hQ
set_option maxHeartbeats 4000000 in
theorem sph_X2_giveBack1 {G : GX} {l : Launch} {d x : Nat} {w : HW} {t c r p : RT} {ct : Int32} {kp : Nat → Option Nat} {kr : Nat → RT} {sl : Nat → Option Nat} {sr : Nat → RT} {K : Int32 → Int32 → RT → Prop} (hd : 5 ≤ d) (hX : XW w x t c r p ct kp kr sl sr) (hQ : wp_X2_giveBack ct kp kr c K) : Sp G l m_X2_giveBack d 0 0 [.ref (x + 23), .ref (x + 4)] w (fun r9 w2 => ∃ (r1 : Int32) (z_ct : Int32) (z_c : RT), r9 = some (.int r1) ∧ XW w2 x t z_c r p z_ct kp kr sl sr ∧ Out x w w2 ∧ K r1 z_ct z_c ∧ (r1 = 0 ∨ r1 = 1)) := by
  refine Sp.ofX k_X2_giveBack.1.1 (Nat.le_of_ble_eq_true rfl) ?_
  refine X.lv (lv2 := [(0, .ref (x + 23)), (1, .ref (x + 4))]) rfl ?_
  refine x_aload_n 1 d_X2_giveBack_0 rfl rfl ?_
  refine x_ifnull d_X2_giveBack_1 ?_
  refine x_aload_n 0 d_X2_giveBack_4 rfl rfl ?_
  refine x_getf 1 gf_X2_17 hX.hK0 rfl d_X2_giveBack_5 ?_
  refine x_if_le (tgt := 23) d_X2_giveBack_8 (by decide) (fun q => ?_) (fun q => ?_)
  · have hQ := hQ.1 q
    refine x_iconst (v := (0 : Int32)) d_X2_giveBack_23 (by decide) ?_
    exact x_iret (retB d_X2_giveBack_24 rfl rfl) ⟨_, _, _, rfl, hX, Out.rf, hQ, Or.inl rfl⟩
  · have hQ := hQ.2 q
    refine x_aload_n 0 d_X2_giveBack_11 rfl rfl ?_
    refine x_getf 1 gf_X2_17 hX.hK0 rfl d_X2_giveBack_12 ?_
    refine x_aload_n 0 d_X2_giveBack_15 rfl rfl ?_
    refine x_getf 0 gf_X2_11 hX.hK0 rfl d_X2_giveBack_16 ?_
    refine x_alenR hX.hK1 d_X2_giveBack_19 ?_
    refine x_icmp_le (tgt := 25) d_X2_giveBack_20 (by decide) (fun q2 => ?_) (fun q2 => ?_)
    · obtain ⟨⟨b, hk⟩, hQ⟩ := hQ.1 q2
      have hn1 : ¬ ct - 1 < 0 ∧ ct - 1 < nI 4 := by
        obtain ⟨j, hj, rfl⟩ := nI_of (x := ct) (fun h => q (Int32.le_of_lt h))
        have h4 := (nI_leI hj (by decide)).mp q2
        have h5 : 0 < j := by rcases Nat.eq_zero_or_pos j with rfl | h
                              · exact absurd (by decide) q
                              · exact h
        rw [show (1 : Int32) = nI 1 from rfl, pk_sub h5]
        exact ⟨nI_pos (by omega), nI_lt (by omega) (by decide)⟩
      obtain ⟨hi, hin⟩ := ct_in hn1.1 hn1.2
      refine x_aload_n 0 d_X2_giveBack_25 rfl rfl ?_
      refine x_dup d_X2_giveBack_26 rfl ?_
      refine x_getf 1 gf_X2_17 hX.hK0 rfl d_X2_giveBack_27 ?_
      refine x_iconst (v := (1 : Int32)) d_X2_giveBack_30 (by decide) ?_
      refine x_isub d_X2_giveBack_31 ?_
      refine x_putf 1 (.int) pf_X2_17 hX.hK0 rfl rfl (Nat.le_of_ble_eq_true rfl) d_X2_giveBack_32 ?_
      have hX := hX.setK (v := ct - 1)
      have hF : Out x w (hset w (x + 23) (cO 2 [.ref (x + 23 + 1), .int (ct - 1)])) := Out.rf.hset (by omega) (by omega)
      refine X.world (w2 := hset w (x + 23) (cO 2 [.ref (x + 23 + 1), .int (ct - 1)])) rfl ?_
      generalize hset w (x + 23) (cO 2 [.ref (x + 23 + 1), .int (ct - 1)]) = w5 at hX hF ⊢
      refine x_aload_n 1 d_X2_giveBack_35 rfl rfl ?_
      refine x_aload_n 0 d_X2_giveBack_36 rfl rfl ?_
      refine x_getf 0 gf_X2_11 hX.hK0 rfl d_X2_giveBack_37 ?_
      refine x_aload_n 0 d_X2_giveBack_40 rfl rfl ?_
      refine x_getf 1 gf_X2_17 hX.hK0 rfl d_X2_giveBack_41 ?_
      refine x_aaldS _ rfl hk hX.hK1 hin d_X2_giveBack_44 ?_
      have hZ := hX.hL.1 _ b hi hk
      have hsp := sp_X6_copyFrom (G := G) (l := l) (w := w5) (b := b) (t := kr (ct - 1).toNatClampNeg) (a := x + 4) (s := c) (d := d - 1) (by omega) (by have h9 := hZ.1; omega) hQ
      rw [has_eq hZ.2.2, has_eq hX.hC] at hsp
      refine x_invV (rest := []) (d' := d - 1) (mc' := 0) (ms' := 0) [.ref b] k_X6_copyFrom lk_X2_25 (hX.hC 0 (by decide)) rfl rfl rfl (Nat.le_of_ble_eq_true rfl) (by omega) (Nat.le_of_ble_eq_true rfl) (Nat.le_of_ble_eq_true rfl) d_X2_giveBack_45 (hsp.mono (fun r w2 hr => ?_))
      obtain ⟨s7, rfl, rfl, hQ⟩ := hr
      refine x_iconst (v := (1 : Int32)) d_X2_giveBack_48 (by decide) ?_
      exact x_iret (retB d_X2_giveBack_49 rfl rfl) ⟨_, _, _, rfl, hX.setC, hF.put (by omega) (by omega), hQ, Or.inr rfl⟩
    · have hQ := hQ.2 q2
      refine x_iconst (v := (0 : Int32)) d_X2_giveBack_23 (by decide) ?_
      exact x_iret (retB d_X2_giveBack_24 rfl rfl) ⟨_, _, _, rfl, hX, Out.rf, hQ, Or.inl rfl⟩
theorem sph_X2_giveBack {G : GX} {l : Launch} {d x : Nat} {w : HW} {t c r p : RT} {ct : Int32} {kp : Nat → Option Nat} {kr : Nat → RT} {sl : Nat → Option Nat} {sr : Nat → RT} {K : Int32 → Int32 → RT → Prop} (hd : 5 ≤ d) (hX : XW w x t c r p ct kp kr sl sr) (hQ : wp_X2_giveBack ct kp kr c K) : Sp G l m_X2_giveBack d 0 0 [.ref (x + 23), .ref (x + 4)] w (fun r9 w2 => ∃ (r1 : Int32) (z_ct : Int32) (z_c : RT), r9 = some (.int r1) ∧ XW w2 x t z_c r p z_ct kp kr sl sr ∧ Out x w w2 ∧ K r1 z_ct z_c) := (sph_X2_giveBack1 hd hX hQ).mono (fun r w2 hr => by obtain ⟨a1, a2, a3, a4, a5, a6, a7, -⟩ := hr; exact ⟨a1, a2, a3, a4, a5, a6, a7⟩)
