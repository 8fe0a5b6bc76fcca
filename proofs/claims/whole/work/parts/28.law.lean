theorem law_in {L i : Nat} (hN : L ≤ 2560) (hi : i ≤ L + 5) (q : ¬ nI L - (5 : Int32) < nI i) : i + 5 ≤ L := by
  rcases Nat.lt_or_ge L (i + 5) with h | h
  · exfalso
    apply q
    refine Int32.lt_iff_toInt_lt.mpr ?_
    rw [show (5 : Int32) = nI 5 from rfl, pk_sub_toInt (by omega) (by decide), nI_toInt (by omega)]
    omega
  · exact h
theorem law_ix {L i j : Nat} (hN : L ≤ 2560) (hi : i + 5 ≤ L) (hj : j < 5) : vp_in (nI i + nI j) L := by rw [nI_add]; exact vp_in_nI (by omega) (by omega)
theorem law_i0 {L i : Nat} (hN : L ≤ 2560) (hi : i + 5 ≤ L) : vp_in (nI i) L := vp_in_nI (by omega) (by omega)
theorem budget {n2 n f B c : Nat} (e : n2 ≤ n + c) (h : n + c * (f + 1) ≤ B) : n2 + c * f ≤ B := by
  rw [Nat.mul_succ] at h
  generalize c * f = z at h ⊢
  omega
theorem budget1 {n f B c : Nat} (h : n + c * (f + 1) ≤ B) : n + c ≤ B := by
  rw [Nat.mul_succ] at h
  generalize c * f = z at h
  omega
theorem has_Out {x : Nat} {w w2 : HW} {g : Nat → Cel} (h : Has w (x + 33) 22 g) (hF : Out x w w2) : Has w2 (x + 33) 22 g := fun j hj => (hF.2 _ (Or.inr ⟨by omega, by omega⟩)).trans (h j hj)
def PT_idle (Inv : Nat → RT → RT → RT → RT → Int32 → (Nat → Option Nat) → (Nat → RT) → (Nat → Option Nat) → (Nat → RT) → RT → Prop) : Prop := ∀ (j : Nat) (t c r p : RT) (ct : Int32) (kp : Nat → Option Nat) (kr : Nat → RT) (sl : Nat → Option Nat) (sr : Nat → RT) (m : RT), Inv j t c r p ct kp kr sl sr m → Inv (j + 1) t c r p ct kp kr sl sr m
def PT_type (Inv : Nat → RT → RT → RT → RT → Int32 → (Nat → Option Nat) → (Nat → RT) → (Nat → Option Nat) → (Nat → RT) → RT → Prop) : Prop := ∀ (j : Nat) (t c r p : RT) (ct : Int32) (kp : Nat → Option Nat) (kr : Nat → RT) (sl : Nat → Option Nat) (sr : Nat → RT) (m : RT) (a0 : Int32), j < 512 → Inv j t c r p ct kp kr sl sr m → wp_X9_type t c r p ct kp kr sl sr a0 (fun v1 t2 => wp_X10_type m a0 (fun v2 m2 => v1 = v2 ∧ Inv (j + 1) t2 c r p ct kp kr sl sr m2))
def PT_wipe (Inv : Nat → RT → RT → RT → RT → Int32 → (Nat → Option Nat) → (Nat → RT) → (Nat → Option Nat) → (Nat → RT) → RT → Prop) : Prop := ∀ (j : Nat) (t c r p : RT) (ct : Int32) (kp : Nat → Option Nat) (kr : Nat → RT) (sl : Nat → Option Nat) (sr : Nat → RT) (m : RT), j < 512 → Inv j t c r p ct kp kr sl sr m → wp_X9_wipe t c r p ct kp kr sl sr (fun v1 t2 => wp_X10_wipe m (fun v2 m2 => v1 = v2 ∧ Inv (j + 1) t2 c r p ct kp kr sl sr m2))
def PT_fault (Inv : Nat → RT → RT → RT → RT → Int32 → (Nat → Option Nat) → (Nat → RT) → (Nat → Option Nat) → (Nat → RT) → RT → Prop) : Prop := ∀ (j : Nat) (t c r p : RT) (ct : Int32) (kp : Nat → Option Nat) (kr : Nat → RT) (sl : Nat → Option Nat) (sr : Nat → RT) (m : RT), j < 512 → Inv j t c r p ct kp kr sl sr m → wp_X9_fault t c r p ct kp kr sl sr (fun v1 t2 => wp_X10_fault m (fun v2 m2 => v1 = v2 ∧ Inv (j + 1) t2 c r p ct kp kr sl sr m2))
def PT_right (Inv : Nat → RT → RT → RT → RT → Int32 → (Nat → Option Nat) → (Nat → RT) → (Nat → Option Nat) → (Nat → RT) → RT → Prop) : Prop := ∀ (j : Nat) (t c r p : RT) (ct : Int32) (kp : Nat → Option Nat) (kr : Nat → RT) (sl : Nat → Option Nat) (sr : Nat → RT) (m : RT) (a0 : Int32), j < 512 → Inv j t c r p ct kp kr sl sr m → wp_X9_right t c r p ct kp kr sl sr a0 (fun v1 t2 c2 ct2 kp2 kr2 => wp_X10_right m a0 (fun v2 m2 => v1 = v2 ∧ Inv (j + 1) t2 c2 r p ct2 kp2 kr2 sl sr m2))
def PT_delay (Inv : Nat → RT → RT → RT → RT → Int32 → (Nat → Option Nat) → (Nat → RT) → (Nat → Option Nat) → (Nat → RT) → RT → Prop) : Prop := ∀ (j : Nat) (t c r p : RT) (ct : Int32) (kp : Nat → Option Nat) (kr : Nat → RT) (sl : Nat → Option Nat) (sr : Nat → RT) (m : RT) (a0 : Int32) (a1 : Int32) (a2 : Int32), j < 512 → Inv j t c r p ct kp kr sl sr m → wp_X9_delay t c r p ct kp kr sl sr a0 a1 a2 (fun v1 c2 ct2 kp2 kr2 => wp_X10_delay m a0 a1 a2 (fun v2 m2 => v1 = v2 ∧ Inv (j + 1) t c2 r p ct2 kp2 kr2 sl sr m2))
def PT_point (Inv : Nat → RT → RT → RT → RT → Int32 → (Nat → Option Nat) → (Nat → RT) → (Nat → Option Nat) → (Nat → RT) → RT → Prop) : Prop := ∀ (j : Nat) (t c r p : RT) (ct : Int32) (kp : Nat → Option Nat) (kr : Nat → RT) (sl : Nat → Option Nat) (sr : Nat → RT) (m : RT) (a0 : Int32) (a1 : Int32) (a2 : Int32), j < 512 → Inv j t c r p ct kp kr sl sr m → wp_X9_point t c r p ct kp kr sl sr a0 a1 a2 (fun v1 c2 ct2 kp2 kr2 => wp_X10_point m a0 a1 a2 (fun v2 m2 => v1 = v2 ∧ Inv (j + 1) t c2 r p ct2 kp2 kr2 sl sr m2))
def PT_clear (Inv : Nat → RT → RT → RT → RT → Int32 → (Nat → Option Nat) → (Nat → RT) → (Nat → Option Nat) → (Nat → RT) → RT → Prop) : Prop := ∀ (j : Nat) (t c r p : RT) (ct : Int32) (kp : Nat → Option Nat) (kr : Nat → RT) (sl : Nat → Option Nat) (sr : Nat → RT) (m : RT) (a0 : Int32), j < 512 → Inv j t c r p ct kp kr sl sr m → wp_X9_clear t c r p ct kp kr sl sr a0 (fun v1 c2 ct2 kp2 kr2 => wp_X10_clear m a0 (fun v2 m2 => v1 = v2 ∧ Inv (j + 1) t c2 r p ct2 kp2 kr2 sl sr m2))
def PT_set (Inv : Nat → RT → RT → RT → RT → Int32 → (Nat → Option Nat) → (Nat → RT) → (Nat → Option Nat) → (Nat → RT) → RT → Prop) : Prop := ∀ (j : Nat) (t c r p : RT) (ct : Int32) (kp : Nat → Option Nat) (kr : Nat → RT) (sl : Nat → Option Nat) (sr : Nat → RT) (m : RT) (a0 : Int32) (a1 : Int32), j < 512 → Inv j t c r p ct kp kr sl sr m → wp_X9_set t c r p ct kp kr sl sr a0 a1 (fun v1 c2 ct2 kp2 kr2 => wp_X10_set m a0 a1 (fun v2 m2 => v1 = v2 ∧ Inv (j + 1) t c2 r p ct2 kp2 kr2 sl sr m2))
def PT_lag (Inv : Nat → RT → RT → RT → RT → Int32 → (Nat → Option Nat) → (Nat → RT) → (Nat → Option Nat) → (Nat → RT) → RT → Prop) : Prop := ∀ (j : Nat) (t c r p : RT) (ct : Int32) (kp : Nat → Option Nat) (kr : Nat → RT) (sl : Nat → Option Nat) (sr : Nat → RT) (m : RT) (a0 : Int32) (a1 : Int32), j < 512 → Inv j t c r p ct kp kr sl sr m → wp_X9_lag t c r p ct kp kr sl sr a0 a1 (fun v1 => wp_X10_lag m a0 a1 (fun v2 => v1 = v2 ∧ Inv (j + 1) t c r p ct kp kr sl sr m))
def PT_breakAt (Inv : Nat → RT → RT → RT → RT → Int32 → (Nat → Option Nat) → (Nat → RT) → (Nat → Option Nat) → (Nat → RT) → RT → Prop) : Prop := ∀ (j : Nat) (t c r p : RT) (ct : Int32) (kp : Nat → Option Nat) (kr : Nat → RT) (sl : Nat → Option Nat) (sr : Nat → RT) (m : RT) (a0 : Int32) (a1 : Int32), j < 512 → Inv j t c r p ct kp kr sl sr m → wp_X9_breakAt t c r p ct kp kr sl sr a0 a1 (fun v1 => wp_X10_breakAt m a0 a1 (fun v2 => v1 = v2 ∧ Inv (j + 1) t c r p ct kp kr sl sr m))
def PT_solve (Inv : Nat → RT → RT → RT → RT → Int32 → (Nat → Option Nat) → (Nat → RT) → (Nat → Option Nat) → (Nat → RT) → RT → Prop) : Prop := ∀ (j : Nat) (t c r p : RT) (ct : Int32) (kp : Nat → Option Nat) (kr : Nat → RT) (sl : Nat → Option Nat) (sr : Nat → RT) (m : RT) (a0 : Int32), j < 512 → Inv j t c r p ct kp kr sl sr m → wp_X9_solve t c r p ct kp kr sl sr a0 (fun v1 c2 p2 ct2 kp2 kr2 => wp_X10_solve m a0 (fun v2 m2 => v1 = v2 ∧ Inv (j + 1) t c2 r p2 ct2 kp2 kr2 sl sr m2))
def PT_value (Inv : Nat → RT → RT → RT → RT → Int32 → (Nat → Option Nat) → (Nat → RT) → (Nat → Option Nat) → (Nat → RT) → RT → Prop) : Prop := ∀ (j : Nat) (t c r p : RT) (ct : Int32) (kp : Nat → Option Nat) (kr : Nat → RT) (sl : Nat → Option Nat) (sr : Nat → RT) (m : RT) (a0 : Int32) (a1 : Int32), j < 512 → Inv j t c r p ct kp kr sl sr m → wp_X9_value t c r p ct kp kr sl sr a0 a1 (fun v1 => wp_X10_value m a0 a1 (fun v2 => v1 = v2 ∧ Inv (j + 1) t c r p ct kp kr sl sr m))
def PT_slope (Inv : Nat → RT → RT → RT → RT → Int32 → (Nat → Option Nat) → (Nat → RT) → (Nat → Option Nat) → (Nat → RT) → RT → Prop) : Prop := ∀ (j : Nat) (t c r p : RT) (ct : Int32) (kp : Nat → Option Nat) (kr : Nat → RT) (sl : Nat → Option Nat) (sr : Nat → RT) (m : RT) (a0 : Int32) (a1 : Int32), j < 512 → Inv j t c r p ct kp kr sl sr m → wp_X9_slope t c r p ct kp kr sl sr a0 a1 (fun v1 => wp_X10_slope m a0 a1 (fun v2 => v1 = v2 ∧ Inv (j + 1) t c r p ct kp kr sl sr m))
def PT_rightAt (Inv : Nat → RT → RT → RT → RT → Int32 → (Nat → Option Nat) → (Nat → RT) → (Nat → Option Nat) → (Nat → RT) → RT → Prop) : Prop := ∀ (j : Nat) (t c r p : RT) (ct : Int32) (kp : Nat → Option Nat) (kr : Nat → RT) (sl : Nat → Option Nat) (sr : Nat → RT) (m : RT) (a0 : Int32) (a1 : Int32), j < 512 → Inv j t c r p ct kp kr sl sr m → wp_X9_rightAt t c r p ct kp kr sl sr a0 a1 (fun v1 p2 => wp_X10_rightAt m a0 a1 (fun v2 m2 => v1 = v2 ∧ Inv (j + 1) t c r p2 ct kp kr sl sr m2))
def PT_step (Inv : Nat → RT → RT → RT → RT → Int32 → (Nat → Option Nat) → (Nat → RT) → (Nat → Option Nat) → (Nat → RT) → RT → Prop) : Prop := ∀ (j : Nat) (t c r p : RT) (ct : Int32) (kp : Nat → Option Nat) (kr : Nat → RT) (sl : Nat → Option Nat) (sr : Nat → RT) (m : RT) (a0 : Int32) (a1 : Int32), j < 512 → Inv j t c r p ct kp kr sl sr m → wp_X9_step t c r p ct kp kr sl sr a0 a1 (fun v1 => wp_X10_step m a0 a1 (fun v2 => v1 = v2 ∧ Inv (j + 1) t c r p ct kp kr sl sr m))
def PT_crossing (Inv : Nat → RT → RT → RT → RT → Int32 → (Nat → Option Nat) → (Nat → RT) → (Nat → Option Nat) → (Nat → RT) → RT → Prop) : Prop := ∀ (j : Nat) (t c r p : RT) (ct : Int32) (kp : Nat → Option Nat) (kr : Nat → RT) (sl : Nat → Option Nat) (sr : Nat → RT) (m : RT) (a0 : Int32) (a1 : Int32) (a2 : Int32), j < 512 → Inv j t c r p ct kp kr sl sr m → wp_X9_crossing t c r p ct kp kr sl sr a0 a1 a2 (fun v1 => wp_X10_crossing m a0 a1 a2 (fun v2 => v1 = v2 ∧ Inv (j + 1) t c r p ct kp kr sl sr m))
def PT_greatest (Inv : Nat → RT → RT → RT → RT → Int32 → (Nat → Option Nat) → (Nat → RT) → (Nat → Option Nat) → (Nat → RT) → RT → Prop) : Prop := ∀ (j : Nat) (t c r p : RT) (ct : Int32) (kp : Nat → Option Nat) (kr : Nat → RT) (sl : Nat → Option Nat) (sr : Nat → RT) (m : RT) (a0 : Int32) (a1 : Int32) (a2 : Int32) (a3 : Int32), j < 512 → Inv j t c r p ct kp kr sl sr m → wp_X9_greatest t c r p ct kp kr sl sr a0 a1 a2 a3 (fun v1 => wp_X10_greatest m a0 a1 a2 a3 (fun v2 => v1 = v2 ∧ Inv (j + 1) t c r p ct kp kr sl sr m))
def PT_differs (Inv : Nat → RT → RT → RT → RT → Int32 → (Nat → Option Nat) → (Nat → RT) → (Nat → Option Nat) → (Nat → RT) → RT → Prop) : Prop := ∀ (j : Nat) (t c r p : RT) (ct : Int32) (kp : Nat → Option Nat) (kr : Nat → RT) (sl : Nat → Option Nat) (sr : Nat → RT) (m : RT) (a0 : Int32), j < 512 → Inv j t c r p ct kp kr sl sr m → wp_X9_differs t c r p ct kp kr sl sr a0 (fun v1 r2 p2 => wp_X10_differs m a0 (fun v2 m2 => v1 = v2 ∧ Inv (j + 1) t c r2 p2 ct kp kr sl sr m2))
def PT_count (Inv : Nat → RT → RT → RT → RT → Int32 → (Nat → Option Nat) → (Nat → RT) → (Nat → Option Nat) → (Nat → RT) → RT → Prop) : Prop := ∀ (j : Nat) (t c r p : RT) (ct : Int32) (kp : Nat → Option Nat) (kr : Nat → RT) (sl : Nat → Option Nat) (sr : Nat → RT) (m : RT) (a0 : Int32), j < 512 → Inv j t c r p ct kp kr sl sr m → wp_X9_count t c r p ct kp kr sl sr a0 (fun v1 => wp_X10_count m a0 (fun v2 => v1 = v2 ∧ Inv (j + 1) t c r p ct kp kr sl sr m))
def PT_undo (Inv : Nat → RT → RT → RT → RT → Int32 → (Nat → Option Nat) → (Nat → RT) → (Nat → Option Nat) → (Nat → RT) → RT → Prop) : Prop := ∀ (j : Nat) (t c r p : RT) (ct : Int32) (kp : Nat → Option Nat) (kr : Nat → RT) (sl : Nat → Option Nat) (sr : Nat → RT) (m : RT), j < 512 → Inv j t c r p ct kp kr sl sr m → wp_X9_undo t c r p ct kp kr sl sr (fun v1 c2 ct2 => wp_X10_undo m (fun v2 m2 => v1 = v2 ∧ Inv (j + 1) t c2 r p ct2 kp kr sl sr m2))
def PT_save (Inv : Nat → RT → RT → RT → RT → Int32 → (Nat → Option Nat) → (Nat → RT) → (Nat → Option Nat) → (Nat → RT) → RT → Prop) : Prop := ∀ (j : Nat) (t c r p : RT) (ct : Int32) (kp : Nat → Option Nat) (kr : Nat → RT) (sl : Nat → Option Nat) (sr : Nat → RT) (m : RT) (a0 : Int32), j < 512 → Inv j t c r p ct kp kr sl sr m → wp_X9_save t c r p ct kp kr sl sr a0 (fun v1 sl2 sr2 => wp_X10_save m a0 (fun v2 m2 => v1 = v2 ∧ Inv (j + 1) t c r p ct kp kr sl2 sr2 m2))
def PT_restore (Inv : Nat → RT → RT → RT → RT → Int32 → (Nat → Option Nat) → (Nat → RT) → (Nat → Option Nat) → (Nat → RT) → RT → Prop) : Prop := ∀ (j : Nat) (t c r p : RT) (ct : Int32) (kp : Nat → Option Nat) (kr : Nat → RT) (sl : Nat → Option Nat) (sr : Nat → RT) (m : RT) (a0 : Int32), j < 512 → Inv j t c r p ct kp kr sl sr m → wp_X9_restore t c r p ct kp kr sl sr a0 (fun v1 c2 ct2 kp2 kr2 => wp_X10_restore m a0 (fun v2 m2 => v1 = v2 ∧ Inv (j + 1) t c2 r p ct2 kp2 kr2 sl sr m2))
set_option maxHeartbeats 4000000 in
theorem law_end {G : GX} {l : Launch} {d x i j k n : Nat} {w : HW} {t c r p : RT} {ct : Int32} {kp : Nat → Option Nat} {kr : Nat → RT} {sl : Nat → Option Nat} {sr : Nat → RT} {m : RT} {Inv : Nat → RT → RT → RT → RT → Int32 → (Nat → Option Nat) → (Nat → RT) → (Nat → Option Nat) → (Nat → RT) → RT → Prop} (hk : k ≤ 146680) (hn : n ≤ 8662210) {L : Nat} (hi5 : i + 5 ≤ L) (hX : XW w x t c r p ct kp kr sl sr) (hM : Has w (x + 33) 22 (shM (x + 33) m)) (hI : Inv (j + 1) t c r p ct kp kr sl sr m) {k3 n3 : Nat} (hk3 : k3 ≤ k + 19 := by omega) (hn3 : n3 ≤ n + 8122 := by omega) (ih : ∀ (i2 : Nat) (k2 n2 : Nat) (t c r p : RT) (ct : Int32) (kp : Nat → Option Nat) (kr : Nat → RT) (sl : Nat → Option Nat) (sr : Nat → RT) (m : RT) (w2 : HW), i2 = i + 5 → k2 ≤ k + 19 → n2 ≤ n + 8122 → XW w2 x t c r p ct kp kr sl sr → Has w2 (x + 33) 22 (shM (x + 33) m) → Inv (j + 1) t c r p ct kp kr sl sr m → X G l m_L_law d 146680 8662210 k2 n2 18 [(0, .ref (gb G)), (1, .ref x), (2, .ref (x + 33)), (3, .int (nI i2))] [] w2 (fun r9 _ => r9 = some (.int 1))) : X G l m_L_law d 146680 8662210 k3 n3 772 [(0, .ref (gb G)), (1, .ref x), (2, .ref (x + 33)), (3, .int (nI i))] [] w (fun r9 _ => r9 = some (.int 1)) := by
  refine x_iinc (v := nI (i + 5)) (lv2 := [(3, .int (nI (i + 5))), (0, .ref (gb G)), (1, .ref x), (2, .ref (x + 33))]) 3 d_L_law_772 rfl (by rw [show (Int32.ofInt 5) = nI 5 from rfl, nI_add]) (by decide) rfl ?_
  refine x_goto (tgt := 18) d_L_law_775 (by decide) ?_
  refine x_sub [1, 2, 3, 0] (lv2 := [(0, .ref (gb G)), (1, .ref x), (2, .ref (x + 33)), (3, .int (nI (i + 5)))]) rfl ?_
  exact ih (i + 5) k3 n3 _ _ _ _ _ _ _ _ _ _ _ rfl hk3 hn3 hX hM hI
set_option maxHeartbeats 4000000 in
theorem law_case_0 {G : GX} {l : Launch} {d x i j k n : Nat} {w : HW} {t c r p : RT} {ct : Int32} {kp : Nat → Option Nat} {kr : Nat → RT} {sl : Nat → Option Nat} {sr : Nat → RT} {m : RT} {Inv : Nat → RT → RT → RT → RT → Int32 → (Nat → Option Nat) → (Nat → RT) → (Nat → Option Nat) → (Nat → RT) → RT → Prop} (hd : 70 ≤ d) (hk : k + 19 ≤ 146680) (hn : n + 8122 ≤ 8662210) (hN : gN G ≤ 2560) (hi5 : i + 5 ≤ gN G) (hX : XW w x t c r p ct kp kr sl sr) (hM : Has w (x + 33) 22 (shM (x + 33) m)) (hj : j < 512) (hI : Inv j t c r p ct kp kr sl sr m) (P : PT_type Inv) (ih : ∀ (i2 : Nat) (k2 n2 : Nat) (t c r p : RT) (ct : Int32) (kp : Nat → Option Nat) (kr : Nat → RT) (sl : Nat → Option Nat) (sr : Nat → RT) (m : RT) (w2 : HW), i2 = i + 5 → k2 ≤ k + 19 → n2 ≤ n + 8122 → XW w2 x t c r p ct kp kr sl sr → Has w2 (x + 33) 22 (shM (x + 33) m) → Inv (j + 1) t c r p ct kp kr sl sr m → X G l m_L_law d 146680 8662210 k2 n2 18 [(0, .ref (gb G)), (1, .ref x), (2, .ref (x + 33)), (3, .int (nI i2))] [] w2 (fun r9 _ => r9 = some (.int 1))) : X G l m_L_law d 146680 8662210 k n 136 [(0, .ref (gb G)), (1, .ref x), (2, .ref (x + 33)), (3, .int (nI i))] [] w (fun r9 _ => r9 = some (.int 1)) := by
  refine x_aload_n 1 d_L_law_136 rfl rfl ?_
  refine x_aload_n 0 d_L_law_137 rfl rfl ?_
  refine x_iload_n 3 d_L_law_138 rfl rfl ?_
  refine x_iconst (v := (1 : Int32)) d_L_law_139 (by decide) ?_
  refine x_iadd d_L_law_140 ?_
  refine x_ialdRo roScript (law_ix hN hi5 (j := 1) (by decide)) d_L_law_141 ?_
  have hQ := P j t c r p ct kp kr sl sr m (gx G (nI i + (1 : Int32)).toNatClampNeg) hj hI
  refine x_invV (rest := []) (d' := d - 1) (mc' := 19) (ms' := 8122) [.int (gx G (nI i + (1 : Int32)).toNatClampNeg)] k_X9_type lk_L_13 hX.1 rfl rfl rfl (Nat.le_of_ble_eq_true rfl) (by omega) hk hn d_L_law_142 ((sp_X9_type (d := d - 1) (by omega) hX hQ).mono (fun r9 w2 hr => ?_))
  obtain ⟨v1, t2, rfl, hX, hF, hQ⟩ := hr
  have hM := has_Out hM hF
  refine x_aload_n 2 d_L_law_145 rfl rfl ?_
  refine x_aload_n 0 d_L_law_146 rfl rfl ?_
  refine x_iload_n 3 d_L_law_147 rfl rfl ?_
  refine x_iconst (v := (1 : Int32)) d_L_law_148 (by decide) ?_
  refine x_iadd d_L_law_149 ?_
  refine x_ialdRo roScript (law_ix hN hi5 (j := 1) (by decide)) d_L_law_150 ?_
  have hsp := sp_X10_type (G := G) (l := l) (w := w2) (a := x + 33) (s := m) (d := d - 1) (by omega) hQ
  rw [has_eq hM] at hsp
  refine x_invV (rest := [.int v1]) (d' := d - 1) (mc' := 0) (ms' := 0) [.int (gx G (nI i + (1 : Int32)).toNatClampNeg)] k_X10_type lk_L_17 (hM 0 (by decide)) rfl rfl rfl (Nat.le_of_ble_eq_true rfl) (by omega) hk hn d_L_law_151 (hsp.mono (fun r9 w3 hr => ?_))
  obtain ⟨v2, m2, rfl, rfl, hv, hI⟩ := hr
  have hX := hX.putM (g := shM (x + 33) m2)
  have hM : Has (put w2 (x + 33) 22 (shM (x + 33) m2)) (x + 33) 22 (shM (x + 33) m2) := has_self
  refine x_icmp_eq (tgt := 772) d_L_law_154 (by decide) (fun _ => ?_) (fun q => absurd hv q)
  exact law_end (k := k) (n := n) (Nat.le_trans (Nat.le_add_right k 19) hk) (Nat.le_trans (Nat.le_add_right n 8122) hn) hi5 hX hM hI (ih := ih)
set_option maxHeartbeats 4000000 in
theorem law_case_1 {G : GX} {l : Launch} {d x i j k n : Nat} {w : HW} {t c r p : RT} {ct : Int32} {kp : Nat → Option Nat} {kr : Nat → RT} {sl : Nat → Option Nat} {sr : Nat → RT} {m : RT} {Inv : Nat → RT → RT → RT → RT → Int32 → (Nat → Option Nat) → (Nat → RT) → (Nat → Option Nat) → (Nat → RT) → RT → Prop} (hd : 70 ≤ d) (hk : k + 19 ≤ 146680) (hn : n + 8122 ≤ 8662210) (hN : gN G ≤ 2560) (hi5 : i + 5 ≤ gN G) (hX : XW w x t c r p ct kp kr sl sr) (hM : Has w (x + 33) 22 (shM (x + 33) m)) (hj : j < 512) (hI : Inv j t c r p ct kp kr sl sr m) (P : PT_wipe Inv) (ih : ∀ (i2 : Nat) (k2 n2 : Nat) (t c r p : RT) (ct : Int32) (kp : Nat → Option Nat) (kr : Nat → RT) (sl : Nat → Option Nat) (sr : Nat → RT) (m : RT) (w2 : HW), i2 = i + 5 → k2 ≤ k + 19 → n2 ≤ n + 8122 → XW w2 x t c r p ct kp kr sl sr → Has w2 (x + 33) 22 (shM (x + 33) m) → Inv (j + 1) t c r p ct kp kr sl sr m → X G l m_L_law d 146680 8662210 k2 n2 18 [(0, .ref (gb G)), (1, .ref x), (2, .ref (x + 33)), (3, .int (nI i2))] [] w2 (fun r9 _ => r9 = some (.int 1))) : X G l m_L_law d 146680 8662210 k n 159 [(0, .ref (gb G)), (1, .ref x), (2, .ref (x + 33)), (3, .int (nI i))] [] w (fun r9 _ => r9 = some (.int 1)) := by
  refine x_aload_n 1 d_L_law_159 rfl rfl ?_
  have hQ := P j t c r p ct kp kr sl sr m  hj hI
  refine x_invV (rest := []) (d' := d - 1) (mc' := 19) (ms' := 8122) [] k_X9_wipe lk_L_18 hX.1 rfl rfl rfl (Nat.le_of_ble_eq_true rfl) (by omega) hk hn d_L_law_160 ((sp_X9_wipe (d := d - 1) (by omega) hX hQ).mono (fun r9 w2 hr => ?_))
  obtain ⟨v1, t2, rfl, hX, hF, hQ⟩ := hr
  have hM := has_Out hM hF
  refine x_aload_n 2 d_L_law_163 rfl rfl ?_
  have hsp := sp_X10_wipe (G := G) (l := l) (w := w2) (a := x + 33) (s := m) (d := d - 1) (by omega) hQ
  rw [has_eq hM] at hsp
  refine x_invV (rest := [.int v1]) (d' := d - 1) (mc' := 0) (ms' := 0) [] k_X10_wipe lk_L_22 (hM 0 (by decide)) rfl rfl rfl (Nat.le_of_ble_eq_true rfl) (by omega) hk hn d_L_law_164 (hsp.mono (fun r9 w3 hr => ?_))
  obtain ⟨v2, m2, rfl, rfl, hv, hI⟩ := hr
  have hX := hX.putM (g := shM (x + 33) m2)
  have hM : Has (put w2 (x + 33) 22 (shM (x + 33) m2)) (x + 33) 22 (shM (x + 33) m2) := has_self
  refine x_icmp_eq (tgt := 772) d_L_law_167 (by decide) (fun _ => ?_) (fun q => absurd hv q)
  exact law_end (k := k) (n := n) (Nat.le_trans (Nat.le_add_right k 19) hk) (Nat.le_trans (Nat.le_add_right n 8122) hn) hi5 hX hM hI (ih := ih)
set_option maxHeartbeats 4000000 in
theorem law_case_2 {G : GX} {l : Launch} {d x i j k n : Nat} {w : HW} {t c r p : RT} {ct : Int32} {kp : Nat → Option Nat} {kr : Nat → RT} {sl : Nat → Option Nat} {sr : Nat → RT} {m : RT} {Inv : Nat → RT → RT → RT → RT → Int32 → (Nat → Option Nat) → (Nat → RT) → (Nat → Option Nat) → (Nat → RT) → RT → Prop} (hd : 70 ≤ d) (hk : k + 19 ≤ 146680) (hn : n + 8122 ≤ 8662210) (hN : gN G ≤ 2560) (hi5 : i + 5 ≤ gN G) (hX : XW w x t c r p ct kp kr sl sr) (hM : Has w (x + 33) 22 (shM (x + 33) m)) (hj : j < 512) (hI : Inv j t c r p ct kp kr sl sr m) (P : PT_fault Inv) (ih : ∀ (i2 : Nat) (k2 n2 : Nat) (t c r p : RT) (ct : Int32) (kp : Nat → Option Nat) (kr : Nat → RT) (sl : Nat → Option Nat) (sr : Nat → RT) (m : RT) (w2 : HW), i2 = i + 5 → k2 ≤ k + 19 → n2 ≤ n + 8122 → XW w2 x t c r p ct kp kr sl sr → Has w2 (x + 33) 22 (shM (x + 33) m) → Inv (j + 1) t c r p ct kp kr sl sr m → X G l m_L_law d 146680 8662210 k2 n2 18 [(0, .ref (gb G)), (1, .ref x), (2, .ref (x + 33)), (3, .int (nI i2))] [] w2 (fun r9 _ => r9 = some (.int 1))) : X G l m_L_law d 146680 8662210 k n 172 [(0, .ref (gb G)), (1, .ref x), (2, .ref (x + 33)), (3, .int (nI i))] [] w (fun r9 _ => r9 = some (.int 1)) := by
  refine x_aload_n 1 d_L_law_172 rfl rfl ?_
  have hQ := P j t c r p ct kp kr sl sr m  hj hI
  refine x_invV (rest := []) (d' := d - 1) (mc' := 19) (ms' := 8122) [] k_X9_fault lk_L_23 hX.1 rfl rfl rfl (Nat.le_of_ble_eq_true rfl) (by omega) hk hn d_L_law_173 ((sp_X9_fault (d := d - 1) (by omega) hX hQ).mono (fun r9 w2 hr => ?_))
  obtain ⟨v1, t2, rfl, hX, hF, hQ⟩ := hr
  have hM := has_Out hM hF
  refine x_aload_n 2 d_L_law_176 rfl rfl ?_
  have hsp := sp_X10_fault (G := G) (l := l) (w := w2) (a := x + 33) (s := m) (d := d - 1) (by omega) hQ
  rw [has_eq hM] at hsp
  refine x_invV (rest := [.int v1]) (d' := d - 1) (mc' := 0) (ms' := 0) [] k_X10_fault lk_L_26 (hM 0 (by decide)) rfl rfl rfl (Nat.le_of_ble_eq_true rfl) (by omega) hk hn d_L_law_177 (hsp.mono (fun r9 w3 hr => ?_))
  obtain ⟨v2, m2, rfl, rfl, hv, hI⟩ := hr
  have hX := hX.putM (g := shM (x + 33) m2)
  have hM : Has (put w2 (x + 33) 22 (shM (x + 33) m2)) (x + 33) 22 (shM (x + 33) m2) := has_self
  refine x_icmp_eq (tgt := 772) d_L_law_180 (by decide) (fun _ => ?_) (fun q => absurd hv q)
  exact law_end (k := k) (n := n) (Nat.le_trans (Nat.le_add_right k 19) hk) (Nat.le_trans (Nat.le_add_right n 8122) hn) hi5 hX hM hI (ih := ih)
set_option maxHeartbeats 4000000 in
theorem law_case_3 {G : GX} {l : Launch} {d x i j k n : Nat} {w : HW} {t c r p : RT} {ct : Int32} {kp : Nat → Option Nat} {kr : Nat → RT} {sl : Nat → Option Nat} {sr : Nat → RT} {m : RT} {Inv : Nat → RT → RT → RT → RT → Int32 → (Nat → Option Nat) → (Nat → RT) → (Nat → Option Nat) → (Nat → RT) → RT → Prop} (hd : 70 ≤ d) (hk : k + 19 ≤ 146680) (hn : n + 8122 ≤ 8662210) (hN : gN G ≤ 2560) (hi5 : i + 5 ≤ gN G) (hX : XW w x t c r p ct kp kr sl sr) (hM : Has w (x + 33) 22 (shM (x + 33) m)) (hj : j < 512) (hI : Inv j t c r p ct kp kr sl sr m) (P : PT_right Inv) (ih : ∀ (i2 : Nat) (k2 n2 : Nat) (t c r p : RT) (ct : Int32) (kp : Nat → Option Nat) (kr : Nat → RT) (sl : Nat → Option Nat) (sr : Nat → RT) (m : RT) (w2 : HW), i2 = i + 5 → k2 ≤ k + 19 → n2 ≤ n + 8122 → XW w2 x t c r p ct kp kr sl sr → Has w2 (x + 33) 22 (shM (x + 33) m) → Inv (j + 1) t c r p ct kp kr sl sr m → X G l m_L_law d 146680 8662210 k2 n2 18 [(0, .ref (gb G)), (1, .ref x), (2, .ref (x + 33)), (3, .int (nI i2))] [] w2 (fun r9 _ => r9 = some (.int 1))) : X G l m_L_law d 146680 8662210 k n 185 [(0, .ref (gb G)), (1, .ref x), (2, .ref (x + 33)), (3, .int (nI i))] [] w (fun r9 _ => r9 = some (.int 1)) := by
  refine x_aload_n 1 d_L_law_185 rfl rfl ?_
  refine x_aload_n 0 d_L_law_186 rfl rfl ?_
  refine x_iload_n 3 d_L_law_187 rfl rfl ?_
  refine x_iconst (v := (1 : Int32)) d_L_law_188 (by decide) ?_
  refine x_iadd d_L_law_189 ?_
  refine x_ialdRo roScript (law_ix hN hi5 (j := 1) (by decide)) d_L_law_190 ?_
  have hQ := P j t c r p ct kp kr sl sr m (gx G (nI i + (1 : Int32)).toNatClampNeg) hj hI
  refine x_invV (rest := []) (d' := d - 1) (mc' := 19) (ms' := 8122) [.int (gx G (nI i + (1 : Int32)).toNatClampNeg)] k_X9_right lk_L_27 hX.1 rfl rfl rfl (Nat.le_of_ble_eq_true rfl) (by omega) hk hn d_L_law_191 ((sp_X9_right (d := d - 1) (by omega) hX hQ).mono (fun r9 w2 hr => ?_))
  obtain ⟨v1, t2, c2, ct2, kp2, kr2, rfl, hX, hF, hQ⟩ := hr
  have hM := has_Out hM hF
  refine x_aload_n 2 d_L_law_194 rfl rfl ?_
  refine x_aload_n 0 d_L_law_195 rfl rfl ?_
  refine x_iload_n 3 d_L_law_196 rfl rfl ?_
  refine x_iconst (v := (1 : Int32)) d_L_law_197 (by decide) ?_
  refine x_iadd d_L_law_198 ?_
  refine x_ialdRo roScript (law_ix hN hi5 (j := 1) (by decide)) d_L_law_199 ?_
  have hsp := sp_X10_right (G := G) (l := l) (w := w2) (a := x + 33) (s := m) (d := d - 1) (by omega) hQ
  rw [has_eq hM] at hsp
  refine x_invV (rest := [.int v1]) (d' := d - 1) (mc' := 0) (ms' := 0) [.int (gx G (nI i + (1 : Int32)).toNatClampNeg)] k_X10_right lk_L_30 (hM 0 (by decide)) rfl rfl rfl (Nat.le_of_ble_eq_true rfl) (by omega) hk hn d_L_law_200 (hsp.mono (fun r9 w3 hr => ?_))
  obtain ⟨v2, m2, rfl, rfl, hv, hI⟩ := hr
  have hX := hX.putM (g := shM (x + 33) m2)
  have hM : Has (put w2 (x + 33) 22 (shM (x + 33) m2)) (x + 33) 22 (shM (x + 33) m2) := has_self
  refine x_icmp_eq (tgt := 772) d_L_law_203 (by decide) (fun _ => ?_) (fun q => absurd hv q)
  exact law_end (k := k) (n := n) (Nat.le_trans (Nat.le_add_right k 19) hk) (Nat.le_trans (Nat.le_add_right n 8122) hn) hi5 hX hM hI (ih := ih)
set_option maxHeartbeats 4000000 in
theorem law_case_4 {G : GX} {l : Launch} {d x i j k n : Nat} {w : HW} {t c r p : RT} {ct : Int32} {kp : Nat → Option Nat} {kr : Nat → RT} {sl : Nat → Option Nat} {sr : Nat → RT} {m : RT} {Inv : Nat → RT → RT → RT → RT → Int32 → (Nat → Option Nat) → (Nat → RT) → (Nat → Option Nat) → (Nat → RT) → RT → Prop} (hd : 70 ≤ d) (hk : k + 19 ≤ 146680) (hn : n + 8122 ≤ 8662210) (hN : gN G ≤ 2560) (hi5 : i + 5 ≤ gN G) (hX : XW w x t c r p ct kp kr sl sr) (hM : Has w (x + 33) 22 (shM (x + 33) m)) (hj : j < 512) (hI : Inv j t c r p ct kp kr sl sr m) (P : PT_delay Inv) (ih : ∀ (i2 : Nat) (k2 n2 : Nat) (t c r p : RT) (ct : Int32) (kp : Nat → Option Nat) (kr : Nat → RT) (sl : Nat → Option Nat) (sr : Nat → RT) (m : RT) (w2 : HW), i2 = i + 5 → k2 ≤ k + 19 → n2 ≤ n + 8122 → XW w2 x t c r p ct kp kr sl sr → Has w2 (x + 33) 22 (shM (x + 33) m) → Inv (j + 1) t c r p ct kp kr sl sr m → X G l m_L_law d 146680 8662210 k2 n2 18 [(0, .ref (gb G)), (1, .ref x), (2, .ref (x + 33)), (3, .int (nI i2))] [] w2 (fun r9 _ => r9 = some (.int 1))) : X G l m_L_law d 146680 8662210 k n 208 [(0, .ref (gb G)), (1, .ref x), (2, .ref (x + 33)), (3, .int (nI i))] [] w (fun r9 _ => r9 = some (.int 1)) := by
  refine x_aload_n 1 d_L_law_208 rfl rfl ?_
  refine x_aload_n 0 d_L_law_209 rfl rfl ?_
  refine x_iload_n 3 d_L_law_210 rfl rfl ?_
  refine x_iconst (v := (1 : Int32)) d_L_law_211 (by decide) ?_
  refine x_iadd d_L_law_212 ?_
  refine x_ialdRo roScript (law_ix hN hi5 (j := 1) (by decide)) d_L_law_213 ?_
  refine x_aload_n 0 d_L_law_214 rfl rfl ?_
  refine x_iload_n 3 d_L_law_215 rfl rfl ?_
  refine x_iconst (v := (2 : Int32)) d_L_law_216 (by decide) ?_
  refine x_iadd d_L_law_217 ?_
  refine x_ialdRo roScript (law_ix hN hi5 (j := 2) (by decide)) d_L_law_218 ?_
  refine x_aload_n 0 d_L_law_219 rfl rfl ?_
  refine x_iload_n 3 d_L_law_220 rfl rfl ?_
  refine x_iconst (v := (3 : Int32)) d_L_law_221 (by decide) ?_
  refine x_iadd d_L_law_222 ?_
  refine x_ialdRo roScript (law_ix hN hi5 (j := 3) (by decide)) d_L_law_223 ?_
  have hQ := P j t c r p ct kp kr sl sr m (gx G (nI i + (1 : Int32)).toNatClampNeg) (gx G (nI i + (2 : Int32)).toNatClampNeg) (gx G (nI i + (3 : Int32)).toNatClampNeg) hj hI
  refine x_invV (rest := []) (d' := d - 1) (mc' := 19) (ms' := 8122) [.int (gx G (nI i + (1 : Int32)).toNatClampNeg), .int (gx G (nI i + (2 : Int32)).toNatClampNeg), .int (gx G (nI i + (3 : Int32)).toNatClampNeg)] k_X9_delay lk_L_31 hX.1 rfl rfl rfl (Nat.le_of_ble_eq_true rfl) (by omega) hk hn d_L_law_224 ((sp_X9_delay (d := d - 1) (by omega) hX hQ).mono (fun r9 w2 hr => ?_))
  obtain ⟨v1, c2, ct2, kp2, kr2, rfl, hX, hF, hQ⟩ := hr
  have hM := has_Out hM hF
  refine x_aload_n 2 d_L_law_227 rfl rfl ?_
  refine x_aload_n 0 d_L_law_228 rfl rfl ?_
  refine x_iload_n 3 d_L_law_229 rfl rfl ?_
  refine x_iconst (v := (1 : Int32)) d_L_law_230 (by decide) ?_
  refine x_iadd d_L_law_231 ?_
  refine x_ialdRo roScript (law_ix hN hi5 (j := 1) (by decide)) d_L_law_232 ?_
  refine x_aload_n 0 d_L_law_233 rfl rfl ?_
  refine x_iload_n 3 d_L_law_234 rfl rfl ?_
  refine x_iconst (v := (2 : Int32)) d_L_law_235 (by decide) ?_
  refine x_iadd d_L_law_236 ?_
  refine x_ialdRo roScript (law_ix hN hi5 (j := 2) (by decide)) d_L_law_237 ?_
  refine x_aload_n 0 d_L_law_238 rfl rfl ?_
  refine x_iload_n 3 d_L_law_239 rfl rfl ?_
  refine x_iconst (v := (3 : Int32)) d_L_law_240 (by decide) ?_
  refine x_iadd d_L_law_241 ?_
  refine x_ialdRo roScript (law_ix hN hi5 (j := 3) (by decide)) d_L_law_242 ?_
  have hsp := sp_X10_delay (G := G) (l := l) (w := w2) (a := x + 33) (s := m) (d := d - 1) (by omega) hQ
  rw [has_eq hM] at hsp
  refine x_invV (rest := [.int v1]) (d' := d - 1) (mc' := 0) (ms' := 0) [.int (gx G (nI i + (1 : Int32)).toNatClampNeg), .int (gx G (nI i + (2 : Int32)).toNatClampNeg), .int (gx G (nI i + (3 : Int32)).toNatClampNeg)] k_X10_delay lk_L_35 (hM 0 (by decide)) rfl rfl rfl (Nat.le_of_ble_eq_true rfl) (by omega) hk hn d_L_law_243 (hsp.mono (fun r9 w3 hr => ?_))
  obtain ⟨v2, m2, rfl, rfl, hv, hI⟩ := hr
  have hX := hX.putM (g := shM (x + 33) m2)
  have hM : Has (put w2 (x + 33) 22 (shM (x + 33) m2)) (x + 33) 22 (shM (x + 33) m2) := has_self
  refine x_icmp_eq (tgt := 772) d_L_law_246 (by decide) (fun _ => ?_) (fun q => absurd hv q)
  exact law_end (k := k) (n := n) (Nat.le_trans (Nat.le_add_right k 19) hk) (Nat.le_trans (Nat.le_add_right n 8122) hn) hi5 hX hM hI (ih := ih)
set_option maxHeartbeats 4000000 in
theorem law_case_5 {G : GX} {l : Launch} {d x i j k n : Nat} {w : HW} {t c r p : RT} {ct : Int32} {kp : Nat → Option Nat} {kr : Nat → RT} {sl : Nat → Option Nat} {sr : Nat → RT} {m : RT} {Inv : Nat → RT → RT → RT → RT → Int32 → (Nat → Option Nat) → (Nat → RT) → (Nat → Option Nat) → (Nat → RT) → RT → Prop} (hd : 70 ≤ d) (hk : k + 19 ≤ 146680) (hn : n + 8122 ≤ 8662210) (hN : gN G ≤ 2560) (hi5 : i + 5 ≤ gN G) (hX : XW w x t c r p ct kp kr sl sr) (hM : Has w (x + 33) 22 (shM (x + 33) m)) (hj : j < 512) (hI : Inv j t c r p ct kp kr sl sr m) (P : PT_point Inv) (ih : ∀ (i2 : Nat) (k2 n2 : Nat) (t c r p : RT) (ct : Int32) (kp : Nat → Option Nat) (kr : Nat → RT) (sl : Nat → Option Nat) (sr : Nat → RT) (m : RT) (w2 : HW), i2 = i + 5 → k2 ≤ k + 19 → n2 ≤ n + 8122 → XW w2 x t c r p ct kp kr sl sr → Has w2 (x + 33) 22 (shM (x + 33) m) → Inv (j + 1) t c r p ct kp kr sl sr m → X G l m_L_law d 146680 8662210 k2 n2 18 [(0, .ref (gb G)), (1, .ref x), (2, .ref (x + 33)), (3, .int (nI i2))] [] w2 (fun r9 _ => r9 = some (.int 1))) : X G l m_L_law d 146680 8662210 k n 251 [(0, .ref (gb G)), (1, .ref x), (2, .ref (x + 33)), (3, .int (nI i))] [] w (fun r9 _ => r9 = some (.int 1)) := by
  refine x_aload_n 1 d_L_law_251 rfl rfl ?_
  refine x_aload_n 0 d_L_law_252 rfl rfl ?_
  refine x_iload_n 3 d_L_law_253 rfl rfl ?_
  refine x_iconst (v := (1 : Int32)) d_L_law_254 (by decide) ?_
  refine x_iadd d_L_law_255 ?_
  refine x_ialdRo roScript (law_ix hN hi5 (j := 1) (by decide)) d_L_law_256 ?_
  refine x_aload_n 0 d_L_law_257 rfl rfl ?_
  refine x_iload_n 3 d_L_law_258 rfl rfl ?_
  refine x_iconst (v := (2 : Int32)) d_L_law_259 (by decide) ?_
  refine x_iadd d_L_law_260 ?_
  refine x_ialdRo roScript (law_ix hN hi5 (j := 2) (by decide)) d_L_law_261 ?_
  refine x_aload_n 0 d_L_law_262 rfl rfl ?_
  refine x_iload_n 3 d_L_law_263 rfl rfl ?_
  refine x_iconst (v := (3 : Int32)) d_L_law_264 (by decide) ?_
  refine x_iadd d_L_law_265 ?_
  refine x_ialdRo roScript (law_ix hN hi5 (j := 3) (by decide)) d_L_law_266 ?_
  have hQ := P j t c r p ct kp kr sl sr m (gx G (nI i + (1 : Int32)).toNatClampNeg) (gx G (nI i + (2 : Int32)).toNatClampNeg) (gx G (nI i + (3 : Int32)).toNatClampNeg) hj hI
  refine x_invV (rest := []) (d' := d - 1) (mc' := 19) (ms' := 8122) [.int (gx G (nI i + (1 : Int32)).toNatClampNeg), .int (gx G (nI i + (2 : Int32)).toNatClampNeg), .int (gx G (nI i + (3 : Int32)).toNatClampNeg)] k_X9_point lk_L_36 hX.1 rfl rfl rfl (Nat.le_of_ble_eq_true rfl) (by omega) hk hn d_L_law_267 ((sp_X9_point (d := d - 1) (by omega) hX hQ).mono (fun r9 w2 hr => ?_))
  obtain ⟨v1, c2, ct2, kp2, kr2, rfl, hX, hF, hQ⟩ := hr
  have hM := has_Out hM hF
  refine x_aload_n 2 d_L_law_270 rfl rfl ?_
  refine x_aload_n 0 d_L_law_271 rfl rfl ?_
  refine x_iload_n 3 d_L_law_272 rfl rfl ?_
  refine x_iconst (v := (1 : Int32)) d_L_law_273 (by decide) ?_
  refine x_iadd d_L_law_274 ?_
  refine x_ialdRo roScript (law_ix hN hi5 (j := 1) (by decide)) d_L_law_275 ?_
  refine x_aload_n 0 d_L_law_276 rfl rfl ?_
  refine x_iload_n 3 d_L_law_277 rfl rfl ?_
  refine x_iconst (v := (2 : Int32)) d_L_law_278 (by decide) ?_
  refine x_iadd d_L_law_279 ?_
  refine x_ialdRo roScript (law_ix hN hi5 (j := 2) (by decide)) d_L_law_280 ?_
  refine x_aload_n 0 d_L_law_281 rfl rfl ?_
  refine x_iload_n 3 d_L_law_282 rfl rfl ?_
  refine x_iconst (v := (3 : Int32)) d_L_law_283 (by decide) ?_
  refine x_iadd d_L_law_284 ?_
  refine x_ialdRo roScript (law_ix hN hi5 (j := 3) (by decide)) d_L_law_285 ?_
  have hsp := sp_X10_point (G := G) (l := l) (w := w2) (a := x + 33) (s := m) (d := d - 1) (by omega) hQ
  rw [has_eq hM] at hsp
  refine x_invV (rest := [.int v1]) (d' := d - 1) (mc' := 0) (ms' := 0) [.int (gx G (nI i + (1 : Int32)).toNatClampNeg), .int (gx G (nI i + (2 : Int32)).toNatClampNeg), .int (gx G (nI i + (3 : Int32)).toNatClampNeg)] k_X10_point lk_L_39 (hM 0 (by decide)) rfl rfl rfl (Nat.le_of_ble_eq_true rfl) (by omega) hk hn d_L_law_286 (hsp.mono (fun r9 w3 hr => ?_))
  obtain ⟨v2, m2, rfl, rfl, hv, hI⟩ := hr
  have hX := hX.putM (g := shM (x + 33) m2)
  have hM : Has (put w2 (x + 33) 22 (shM (x + 33) m2)) (x + 33) 22 (shM (x + 33) m2) := has_self
  refine x_icmp_eq (tgt := 772) d_L_law_289 (by decide) (fun _ => ?_) (fun q => absurd hv q)
  exact law_end (k := k) (n := n) (Nat.le_trans (Nat.le_add_right k 19) hk) (Nat.le_trans (Nat.le_add_right n 8122) hn) hi5 hX hM hI (ih := ih)
set_option maxHeartbeats 4000000 in
theorem law_case_6 {G : GX} {l : Launch} {d x i j k n : Nat} {w : HW} {t c r p : RT} {ct : Int32} {kp : Nat → Option Nat} {kr : Nat → RT} {sl : Nat → Option Nat} {sr : Nat → RT} {m : RT} {Inv : Nat → RT → RT → RT → RT → Int32 → (Nat → Option Nat) → (Nat → RT) → (Nat → Option Nat) → (Nat → RT) → RT → Prop} (hd : 70 ≤ d) (hk : k + 19 ≤ 146680) (hn : n + 8122 ≤ 8662210) (hN : gN G ≤ 2560) (hi5 : i + 5 ≤ gN G) (hX : XW w x t c r p ct kp kr sl sr) (hM : Has w (x + 33) 22 (shM (x + 33) m)) (hj : j < 512) (hI : Inv j t c r p ct kp kr sl sr m) (P : PT_clear Inv) (ih : ∀ (i2 : Nat) (k2 n2 : Nat) (t c r p : RT) (ct : Int32) (kp : Nat → Option Nat) (kr : Nat → RT) (sl : Nat → Option Nat) (sr : Nat → RT) (m : RT) (w2 : HW), i2 = i + 5 → k2 ≤ k + 19 → n2 ≤ n + 8122 → XW w2 x t c r p ct kp kr sl sr → Has w2 (x + 33) 22 (shM (x + 33) m) → Inv (j + 1) t c r p ct kp kr sl sr m → X G l m_L_law d 146680 8662210 k2 n2 18 [(0, .ref (gb G)), (1, .ref x), (2, .ref (x + 33)), (3, .int (nI i2))] [] w2 (fun r9 _ => r9 = some (.int 1))) : X G l m_L_law d 146680 8662210 k n 294 [(0, .ref (gb G)), (1, .ref x), (2, .ref (x + 33)), (3, .int (nI i))] [] w (fun r9 _ => r9 = some (.int 1)) := by
  refine x_aload_n 1 d_L_law_294 rfl rfl ?_
  refine x_aload_n 0 d_L_law_295 rfl rfl ?_
  refine x_iload_n 3 d_L_law_296 rfl rfl ?_
  refine x_iconst (v := (1 : Int32)) d_L_law_297 (by decide) ?_
  refine x_iadd d_L_law_298 ?_
  refine x_ialdRo roScript (law_ix hN hi5 (j := 1) (by decide)) d_L_law_299 ?_
  have hQ := P j t c r p ct kp kr sl sr m (gx G (nI i + (1 : Int32)).toNatClampNeg) hj hI
  refine x_invV (rest := []) (d' := d - 1) (mc' := 19) (ms' := 8122) [.int (gx G (nI i + (1 : Int32)).toNatClampNeg)] k_X9_clear lk_L_40 hX.1 rfl rfl rfl (Nat.le_of_ble_eq_true rfl) (by omega) hk hn d_L_law_300 ((sp_X9_clear (d := d - 1) (by omega) hX hQ).mono (fun r9 w2 hr => ?_))
  obtain ⟨v1, c2, ct2, kp2, kr2, rfl, hX, hF, hQ⟩ := hr
  have hM := has_Out hM hF
  refine x_aload_n 2 d_L_law_303 rfl rfl ?_
  refine x_aload_n 0 d_L_law_304 rfl rfl ?_
  refine x_iload_n 3 d_L_law_305 rfl rfl ?_
  refine x_iconst (v := (1 : Int32)) d_L_law_306 (by decide) ?_
  refine x_iadd d_L_law_307 ?_
  refine x_ialdRo roScript (law_ix hN hi5 (j := 1) (by decide)) d_L_law_308 ?_
  have hsp := sp_X10_clear (G := G) (l := l) (w := w2) (a := x + 33) (s := m) (d := d - 1) (by omega) hQ
  rw [has_eq hM] at hsp
  refine x_invV (rest := [.int v1]) (d' := d - 1) (mc' := 0) (ms' := 0) [.int (gx G (nI i + (1 : Int32)).toNatClampNeg)] k_X10_clear lk_L_43 (hM 0 (by decide)) rfl rfl rfl (Nat.le_of_ble_eq_true rfl) (by omega) hk hn d_L_law_309 (hsp.mono (fun r9 w3 hr => ?_))
  obtain ⟨v2, m2, rfl, rfl, hv, hI⟩ := hr
  have hX := hX.putM (g := shM (x + 33) m2)
  have hM : Has (put w2 (x + 33) 22 (shM (x + 33) m2)) (x + 33) 22 (shM (x + 33) m2) := has_self
  refine x_icmp_eq (tgt := 772) d_L_law_312 (by decide) (fun _ => ?_) (fun q => absurd hv q)
  exact law_end (k := k) (n := n) (Nat.le_trans (Nat.le_add_right k 19) hk) (Nat.le_trans (Nat.le_add_right n 8122) hn) hi5 hX hM hI (ih := ih)
set_option maxHeartbeats 4000000 in
theorem law_case_7 {G : GX} {l : Launch} {d x i j k n : Nat} {w : HW} {t c r p : RT} {ct : Int32} {kp : Nat → Option Nat} {kr : Nat → RT} {sl : Nat → Option Nat} {sr : Nat → RT} {m : RT} {Inv : Nat → RT → RT → RT → RT → Int32 → (Nat → Option Nat) → (Nat → RT) → (Nat → Option Nat) → (Nat → RT) → RT → Prop} (hd : 70 ≤ d) (hk : k + 19 ≤ 146680) (hn : n + 8122 ≤ 8662210) (hN : gN G ≤ 2560) (hi5 : i + 5 ≤ gN G) (hX : XW w x t c r p ct kp kr sl sr) (hM : Has w (x + 33) 22 (shM (x + 33) m)) (hj : j < 512) (hI : Inv j t c r p ct kp kr sl sr m) (P : PT_set Inv) (ih : ∀ (i2 : Nat) (k2 n2 : Nat) (t c r p : RT) (ct : Int32) (kp : Nat → Option Nat) (kr : Nat → RT) (sl : Nat → Option Nat) (sr : Nat → RT) (m : RT) (w2 : HW), i2 = i + 5 → k2 ≤ k + 19 → n2 ≤ n + 8122 → XW w2 x t c r p ct kp kr sl sr → Has w2 (x + 33) 22 (shM (x + 33) m) → Inv (j + 1) t c r p ct kp kr sl sr m → X G l m_L_law d 146680 8662210 k2 n2 18 [(0, .ref (gb G)), (1, .ref x), (2, .ref (x + 33)), (3, .int (nI i2))] [] w2 (fun r9 _ => r9 = some (.int 1))) : X G l m_L_law d 146680 8662210 k n 317 [(0, .ref (gb G)), (1, .ref x), (2, .ref (x + 33)), (3, .int (nI i))] [] w (fun r9 _ => r9 = some (.int 1)) := by
  refine x_aload_n 1 d_L_law_317 rfl rfl ?_
  refine x_aload_n 0 d_L_law_318 rfl rfl ?_
  refine x_iload_n 3 d_L_law_319 rfl rfl ?_
  refine x_iconst (v := (1 : Int32)) d_L_law_320 (by decide) ?_
  refine x_iadd d_L_law_321 ?_
  refine x_ialdRo roScript (law_ix hN hi5 (j := 1) (by decide)) d_L_law_322 ?_
  refine x_aload_n 0 d_L_law_323 rfl rfl ?_
  refine x_iload_n 3 d_L_law_324 rfl rfl ?_
  refine x_iconst (v := (2 : Int32)) d_L_law_325 (by decide) ?_
  refine x_iadd d_L_law_326 ?_
  refine x_ialdRo roScript (law_ix hN hi5 (j := 2) (by decide)) d_L_law_327 ?_
  have hQ := P j t c r p ct kp kr sl sr m (gx G (nI i + (1 : Int32)).toNatClampNeg) (gx G (nI i + (2 : Int32)).toNatClampNeg) hj hI
  refine x_invV (rest := []) (d' := d - 1) (mc' := 19) (ms' := 8122) [.int (gx G (nI i + (1 : Int32)).toNatClampNeg), .int (gx G (nI i + (2 : Int32)).toNatClampNeg)] k_X9_set lk_L_44 hX.1 rfl rfl rfl (Nat.le_of_ble_eq_true rfl) (by omega) hk hn d_L_law_328 ((sp_X9_set (d := d - 1) (by omega) hX hQ).mono (fun r9 w2 hr => ?_))
  obtain ⟨v1, c2, ct2, kp2, kr2, rfl, hX, hF, hQ⟩ := hr
  have hM := has_Out hM hF
  refine x_aload_n 2 d_L_law_331 rfl rfl ?_
  refine x_aload_n 0 d_L_law_332 rfl rfl ?_
  refine x_iload_n 3 d_L_law_333 rfl rfl ?_
  refine x_iconst (v := (1 : Int32)) d_L_law_334 (by decide) ?_
  refine x_iadd d_L_law_335 ?_
  refine x_ialdRo roScript (law_ix hN hi5 (j := 1) (by decide)) d_L_law_336 ?_
  refine x_aload_n 0 d_L_law_337 rfl rfl ?_
  refine x_iload_n 3 d_L_law_338 rfl rfl ?_
  refine x_iconst (v := (2 : Int32)) d_L_law_339 (by decide) ?_
  refine x_iadd d_L_law_340 ?_
  refine x_ialdRo roScript (law_ix hN hi5 (j := 2) (by decide)) d_L_law_341 ?_
  have hsp := sp_X10_set (G := G) (l := l) (w := w2) (a := x + 33) (s := m) (d := d - 1) (by omega) hQ
  rw [has_eq hM] at hsp
  refine x_invV (rest := [.int v1]) (d' := d - 1) (mc' := 0) (ms' := 0) [.int (gx G (nI i + (1 : Int32)).toNatClampNeg), .int (gx G (nI i + (2 : Int32)).toNatClampNeg)] k_X10_set lk_L_48 (hM 0 (by decide)) rfl rfl rfl (Nat.le_of_ble_eq_true rfl) (by omega) hk hn d_L_law_342 (hsp.mono (fun r9 w3 hr => ?_))
  obtain ⟨v2, m2, rfl, rfl, hv, hI⟩ := hr
  have hX := hX.putM (g := shM (x + 33) m2)
  have hM : Has (put w2 (x + 33) 22 (shM (x + 33) m2)) (x + 33) 22 (shM (x + 33) m2) := has_self
  refine x_icmp_eq (tgt := 772) d_L_law_345 (by decide) (fun _ => ?_) (fun q => absurd hv q)
  exact law_end (k := k) (n := n) (Nat.le_trans (Nat.le_add_right k 19) hk) (Nat.le_trans (Nat.le_add_right n 8122) hn) hi5 hX hM hI (ih := ih)
set_option maxHeartbeats 4000000 in
theorem law_case_8 {G : GX} {l : Launch} {d x i j k n : Nat} {w : HW} {t c r p : RT} {ct : Int32} {kp : Nat → Option Nat} {kr : Nat → RT} {sl : Nat → Option Nat} {sr : Nat → RT} {m : RT} {Inv : Nat → RT → RT → RT → RT → Int32 → (Nat → Option Nat) → (Nat → RT) → (Nat → Option Nat) → (Nat → RT) → RT → Prop} (hd : 70 ≤ d) (hk : k + 19 ≤ 146680) (hn : n + 8122 ≤ 8662210) (hN : gN G ≤ 2560) (hi5 : i + 5 ≤ gN G) (hX : XW w x t c r p ct kp kr sl sr) (hM : Has w (x + 33) 22 (shM (x + 33) m)) (hj : j < 512) (hI : Inv j t c r p ct kp kr sl sr m) (P : PT_lag Inv) (ih : ∀ (i2 : Nat) (k2 n2 : Nat) (t c r p : RT) (ct : Int32) (kp : Nat → Option Nat) (kr : Nat → RT) (sl : Nat → Option Nat) (sr : Nat → RT) (m : RT) (w2 : HW), i2 = i + 5 → k2 ≤ k + 19 → n2 ≤ n + 8122 → XW w2 x t c r p ct kp kr sl sr → Has w2 (x + 33) 22 (shM (x + 33) m) → Inv (j + 1) t c r p ct kp kr sl sr m → X G l m_L_law d 146680 8662210 k2 n2 18 [(0, .ref (gb G)), (1, .ref x), (2, .ref (x + 33)), (3, .int (nI i2))] [] w2 (fun r9 _ => r9 = some (.int 1))) : X G l m_L_law d 146680 8662210 k n 350 [(0, .ref (gb G)), (1, .ref x), (2, .ref (x + 33)), (3, .int (nI i))] [] w (fun r9 _ => r9 = some (.int 1)) := by
  refine x_aload_n 1 d_L_law_350 rfl rfl ?_
  refine x_aload_n 0 d_L_law_351 rfl rfl ?_
  refine x_iload_n 3 d_L_law_352 rfl rfl ?_
  refine x_iconst (v := (1 : Int32)) d_L_law_353 (by decide) ?_
  refine x_iadd d_L_law_354 ?_
  refine x_ialdRo roScript (law_ix hN hi5 (j := 1) (by decide)) d_L_law_355 ?_
  refine x_aload_n 0 d_L_law_356 rfl rfl ?_
  refine x_iload_n 3 d_L_law_357 rfl rfl ?_
  refine x_iconst (v := (2 : Int32)) d_L_law_358 (by decide) ?_
  refine x_iadd d_L_law_359 ?_
  refine x_ialdRo roScript (law_ix hN hi5 (j := 2) (by decide)) d_L_law_360 ?_
  have hQ := P j t c r p ct kp kr sl sr m (gx G (nI i + (1 : Int32)).toNatClampNeg) (gx G (nI i + (2 : Int32)).toNatClampNeg) hj hI
  refine x_invV (rest := []) (d' := d - 1) (mc' := 19) (ms' := 8122) [.int (gx G (nI i + (1 : Int32)).toNatClampNeg), .int (gx G (nI i + (2 : Int32)).toNatClampNeg)] k_X9_lag lk_L_49 hX.1 rfl rfl rfl (Nat.le_of_ble_eq_true rfl) (by omega) hk hn d_L_law_361 ((sp_X9_lag (d := d - 1) (by omega) hX hQ).mono (fun r9 w2 hr => ?_))
  obtain ⟨v1, rfl, hX, hF, hQ⟩ := hr
  have hM := has_Out hM hF
  refine x_aload_n 2 d_L_law_364 rfl rfl ?_
  refine x_aload_n 0 d_L_law_365 rfl rfl ?_
  refine x_iload_n 3 d_L_law_366 rfl rfl ?_
  refine x_iconst (v := (1 : Int32)) d_L_law_367 (by decide) ?_
  refine x_iadd d_L_law_368 ?_
  refine x_ialdRo roScript (law_ix hN hi5 (j := 1) (by decide)) d_L_law_369 ?_
  refine x_aload_n 0 d_L_law_370 rfl rfl ?_
  refine x_iload_n 3 d_L_law_371 rfl rfl ?_
  refine x_iconst (v := (2 : Int32)) d_L_law_372 (by decide) ?_
  refine x_iadd d_L_law_373 ?_
  refine x_ialdRo roScript (law_ix hN hi5 (j := 2) (by decide)) d_L_law_374 ?_
  have hsp := sp_X10_lag (G := G) (l := l) (w := w2) (a := x + 33) (s := m) (d := d - 1) (by omega) hQ
  rw [has_eq hM] at hsp
  refine x_invV (rest := [.int v1]) (d' := d - 1) (mc' := 0) (ms' := 0) [.int (gx G (nI i + (1 : Int32)).toNatClampNeg), .int (gx G (nI i + (2 : Int32)).toNatClampNeg)] k_X10_lag lk_L_52 (hM 0 (by decide)) rfl rfl rfl (Nat.le_of_ble_eq_true rfl) (by omega) hk hn d_L_law_375 (hsp.mono (fun r9 w3 hr => ?_))
  obtain ⟨v2, rfl, rfl, hv, hI⟩ := hr
  refine x_icmp_eq (tgt := 772) d_L_law_378 (by decide) (fun _ => ?_) (fun q => absurd hv q)
  exact law_end (k := k) (n := n) (Nat.le_trans (Nat.le_add_right k 19) hk) (Nat.le_trans (Nat.le_add_right n 8122) hn) hi5 hX hM hI (ih := ih)
set_option maxHeartbeats 4000000 in
theorem law_case_9 {G : GX} {l : Launch} {d x i j k n : Nat} {w : HW} {t c r p : RT} {ct : Int32} {kp : Nat → Option Nat} {kr : Nat → RT} {sl : Nat → Option Nat} {sr : Nat → RT} {m : RT} {Inv : Nat → RT → RT → RT → RT → Int32 → (Nat → Option Nat) → (Nat → RT) → (Nat → Option Nat) → (Nat → RT) → RT → Prop} (hd : 70 ≤ d) (hk : k + 19 ≤ 146680) (hn : n + 8122 ≤ 8662210) (hN : gN G ≤ 2560) (hi5 : i + 5 ≤ gN G) (hX : XW w x t c r p ct kp kr sl sr) (hM : Has w (x + 33) 22 (shM (x + 33) m)) (hj : j < 512) (hI : Inv j t c r p ct kp kr sl sr m) (P : PT_breakAt Inv) (ih : ∀ (i2 : Nat) (k2 n2 : Nat) (t c r p : RT) (ct : Int32) (kp : Nat → Option Nat) (kr : Nat → RT) (sl : Nat → Option Nat) (sr : Nat → RT) (m : RT) (w2 : HW), i2 = i + 5 → k2 ≤ k + 19 → n2 ≤ n + 8122 → XW w2 x t c r p ct kp kr sl sr → Has w2 (x + 33) 22 (shM (x + 33) m) → Inv (j + 1) t c r p ct kp kr sl sr m → X G l m_L_law d 146680 8662210 k2 n2 18 [(0, .ref (gb G)), (1, .ref x), (2, .ref (x + 33)), (3, .int (nI i2))] [] w2 (fun r9 _ => r9 = some (.int 1))) : X G l m_L_law d 146680 8662210 k n 383 [(0, .ref (gb G)), (1, .ref x), (2, .ref (x + 33)), (3, .int (nI i))] [] w (fun r9 _ => r9 = some (.int 1)) := by
  refine x_aload_n 1 d_L_law_383 rfl rfl ?_
  refine x_aload_n 0 d_L_law_384 rfl rfl ?_
  refine x_iload_n 3 d_L_law_385 rfl rfl ?_
  refine x_iconst (v := (1 : Int32)) d_L_law_386 (by decide) ?_
  refine x_iadd d_L_law_387 ?_
  refine x_ialdRo roScript (law_ix hN hi5 (j := 1) (by decide)) d_L_law_388 ?_
  refine x_aload_n 0 d_L_law_389 rfl rfl ?_
  refine x_iload_n 3 d_L_law_390 rfl rfl ?_
  refine x_iconst (v := (2 : Int32)) d_L_law_391 (by decide) ?_
  refine x_iadd d_L_law_392 ?_
  refine x_ialdRo roScript (law_ix hN hi5 (j := 2) (by decide)) d_L_law_393 ?_
  have hQ := P j t c r p ct kp kr sl sr m (gx G (nI i + (1 : Int32)).toNatClampNeg) (gx G (nI i + (2 : Int32)).toNatClampNeg) hj hI
  refine x_invV (rest := []) (d' := d - 1) (mc' := 19) (ms' := 8122) [.int (gx G (nI i + (1 : Int32)).toNatClampNeg), .int (gx G (nI i + (2 : Int32)).toNatClampNeg)] k_X9_breakAt lk_L_53 hX.1 rfl rfl rfl (Nat.le_of_ble_eq_true rfl) (by omega) hk hn d_L_law_394 ((sp_X9_breakAt (d := d - 1) (by omega) hX hQ).mono (fun r9 w2 hr => ?_))
  obtain ⟨v1, rfl, hX, hF, hQ⟩ := hr
  have hM := has_Out hM hF
  refine x_aload_n 2 d_L_law_397 rfl rfl ?_
  refine x_aload_n 0 d_L_law_398 rfl rfl ?_
  refine x_iload_n 3 d_L_law_399 rfl rfl ?_
  refine x_iconst (v := (1 : Int32)) d_L_law_400 (by decide) ?_
  refine x_iadd d_L_law_401 ?_
  refine x_ialdRo roScript (law_ix hN hi5 (j := 1) (by decide)) d_L_law_402 ?_
  refine x_aload_n 0 d_L_law_403 rfl rfl ?_
  refine x_iload_n 3 d_L_law_404 rfl rfl ?_
  refine x_iconst (v := (2 : Int32)) d_L_law_405 (by decide) ?_
  refine x_iadd d_L_law_406 ?_
  refine x_ialdRo roScript (law_ix hN hi5 (j := 2) (by decide)) d_L_law_407 ?_
  have hsp := sp_X10_breakAt (G := G) (l := l) (w := w2) (a := x + 33) (s := m) (d := d - 1) (by omega) hQ
  rw [has_eq hM] at hsp
  refine x_invV (rest := [.int v1]) (d' := d - 1) (mc' := 0) (ms' := 0) [.int (gx G (nI i + (1 : Int32)).toNatClampNeg), .int (gx G (nI i + (2 : Int32)).toNatClampNeg)] k_X10_breakAt lk_L_56 (hM 0 (by decide)) rfl rfl rfl (Nat.le_of_ble_eq_true rfl) (by omega) hk hn d_L_law_408 (hsp.mono (fun r9 w3 hr => ?_))
  obtain ⟨v2, rfl, rfl, hv, hI⟩ := hr
  refine x_icmp_eq (tgt := 772) d_L_law_411 (by decide) (fun _ => ?_) (fun q => absurd hv q)
  exact law_end (k := k) (n := n) (Nat.le_trans (Nat.le_add_right k 19) hk) (Nat.le_trans (Nat.le_add_right n 8122) hn) hi5 hX hM hI (ih := ih)
set_option maxHeartbeats 4000000 in
theorem law_case_10 {G : GX} {l : Launch} {d x i j k n : Nat} {w : HW} {t c r p : RT} {ct : Int32} {kp : Nat → Option Nat} {kr : Nat → RT} {sl : Nat → Option Nat} {sr : Nat → RT} {m : RT} {Inv : Nat → RT → RT → RT → RT → Int32 → (Nat → Option Nat) → (Nat → RT) → (Nat → Option Nat) → (Nat → RT) → RT → Prop} (hd : 70 ≤ d) (hk : k + 19 ≤ 146680) (hn : n + 8122 ≤ 8662210) (hN : gN G ≤ 2560) (hi5 : i + 5 ≤ gN G) (hX : XW w x t c r p ct kp kr sl sr) (hM : Has w (x + 33) 22 (shM (x + 33) m)) (hj : j < 512) (hI : Inv j t c r p ct kp kr sl sr m) (P : PT_solve Inv) (ih : ∀ (i2 : Nat) (k2 n2 : Nat) (t c r p : RT) (ct : Int32) (kp : Nat → Option Nat) (kr : Nat → RT) (sl : Nat → Option Nat) (sr : Nat → RT) (m : RT) (w2 : HW), i2 = i + 5 → k2 ≤ k + 19 → n2 ≤ n + 8122 → XW w2 x t c r p ct kp kr sl sr → Has w2 (x + 33) 22 (shM (x + 33) m) → Inv (j + 1) t c r p ct kp kr sl sr m → X G l m_L_law d 146680 8662210 k2 n2 18 [(0, .ref (gb G)), (1, .ref x), (2, .ref (x + 33)), (3, .int (nI i2))] [] w2 (fun r9 _ => r9 = some (.int 1))) : X G l m_L_law d 146680 8662210 k n 416 [(0, .ref (gb G)), (1, .ref x), (2, .ref (x + 33)), (3, .int (nI i))] [] w (fun r9 _ => r9 = some (.int 1)) := by
  refine x_aload_n 1 d_L_law_416 rfl rfl ?_
  refine x_aload_n 0 d_L_law_417 rfl rfl ?_
  refine x_iload_n 3 d_L_law_418 rfl rfl ?_
  refine x_iconst (v := (1 : Int32)) d_L_law_419 (by decide) ?_
  refine x_iadd d_L_law_420 ?_
  refine x_ialdRo roScript (law_ix hN hi5 (j := 1) (by decide)) d_L_law_421 ?_
  have hQ := P j t c r p ct kp kr sl sr m (gx G (nI i + (1 : Int32)).toNatClampNeg) hj hI
  refine x_invV (rest := []) (d' := d - 1) (mc' := 19) (ms' := 8122) [.int (gx G (nI i + (1 : Int32)).toNatClampNeg)] k_X9_solve lk_L_57 hX.1 rfl rfl rfl (Nat.le_of_ble_eq_true rfl) (by omega) hk hn d_L_law_422 ((sp_X9_solve (d := d - 1) (by omega) hX hQ).mono (fun r9 w2 hr => ?_))
  obtain ⟨v1, c2, p2, ct2, kp2, kr2, rfl, hX, hF, hQ⟩ := hr
  have hM := has_Out hM hF
  refine x_aload_n 2 d_L_law_425 rfl rfl ?_
  refine x_aload_n 0 d_L_law_426 rfl rfl ?_
  refine x_iload_n 3 d_L_law_427 rfl rfl ?_
  refine x_iconst (v := (1 : Int32)) d_L_law_428 (by decide) ?_
  refine x_iadd d_L_law_429 ?_
  refine x_ialdRo roScript (law_ix hN hi5 (j := 1) (by decide)) d_L_law_430 ?_
  have hsp := sp_X10_solve (G := G) (l := l) (w := w2) (a := x + 33) (s := m) (d := d - 1) (by omega) hQ
  rw [has_eq hM] at hsp
  refine x_invV (rest := [.int v1]) (d' := d - 1) (mc' := 0) (ms' := 0) [.int (gx G (nI i + (1 : Int32)).toNatClampNeg)] k_X10_solve lk_L_60 (hM 0 (by decide)) rfl rfl rfl (Nat.le_of_ble_eq_true rfl) (by omega) hk hn d_L_law_431 (hsp.mono (fun r9 w3 hr => ?_))
  obtain ⟨v2, m2, rfl, rfl, hv, hI⟩ := hr
  have hX := hX.putM (g := shM (x + 33) m2)
  have hM : Has (put w2 (x + 33) 22 (shM (x + 33) m2)) (x + 33) 22 (shM (x + 33) m2) := has_self
  refine x_icmp_eq (tgt := 772) d_L_law_434 (by decide) (fun _ => ?_) (fun q => absurd hv q)
  exact law_end (k := k) (n := n) (Nat.le_trans (Nat.le_add_right k 19) hk) (Nat.le_trans (Nat.le_add_right n 8122) hn) hi5 hX hM hI (ih := ih)
set_option maxHeartbeats 4000000 in
theorem law_case_11 {G : GX} {l : Launch} {d x i j k n : Nat} {w : HW} {t c r p : RT} {ct : Int32} {kp : Nat → Option Nat} {kr : Nat → RT} {sl : Nat → Option Nat} {sr : Nat → RT} {m : RT} {Inv : Nat → RT → RT → RT → RT → Int32 → (Nat → Option Nat) → (Nat → RT) → (Nat → Option Nat) → (Nat → RT) → RT → Prop} (hd : 70 ≤ d) (hk : k + 19 ≤ 146680) (hn : n + 8122 ≤ 8662210) (hN : gN G ≤ 2560) (hi5 : i + 5 ≤ gN G) (hX : XW w x t c r p ct kp kr sl sr) (hM : Has w (x + 33) 22 (shM (x + 33) m)) (hj : j < 512) (hI : Inv j t c r p ct kp kr sl sr m) (P : PT_value Inv) (ih : ∀ (i2 : Nat) (k2 n2 : Nat) (t c r p : RT) (ct : Int32) (kp : Nat → Option Nat) (kr : Nat → RT) (sl : Nat → Option Nat) (sr : Nat → RT) (m : RT) (w2 : HW), i2 = i + 5 → k2 ≤ k + 19 → n2 ≤ n + 8122 → XW w2 x t c r p ct kp kr sl sr → Has w2 (x + 33) 22 (shM (x + 33) m) → Inv (j + 1) t c r p ct kp kr sl sr m → X G l m_L_law d 146680 8662210 k2 n2 18 [(0, .ref (gb G)), (1, .ref x), (2, .ref (x + 33)), (3, .int (nI i2))] [] w2 (fun r9 _ => r9 = some (.int 1))) : X G l m_L_law d 146680 8662210 k n 439 [(0, .ref (gb G)), (1, .ref x), (2, .ref (x + 33)), (3, .int (nI i))] [] w (fun r9 _ => r9 = some (.int 1)) := by
  refine x_aload_n 1 d_L_law_439 rfl rfl ?_
  refine x_aload_n 0 d_L_law_440 rfl rfl ?_
  refine x_iload_n 3 d_L_law_441 rfl rfl ?_
  refine x_iconst (v := (1 : Int32)) d_L_law_442 (by decide) ?_
  refine x_iadd d_L_law_443 ?_
  refine x_ialdRo roScript (law_ix hN hi5 (j := 1) (by decide)) d_L_law_444 ?_
  refine x_aload_n 0 d_L_law_445 rfl rfl ?_
  refine x_iload_n 3 d_L_law_446 rfl rfl ?_
  refine x_iconst (v := (2 : Int32)) d_L_law_447 (by decide) ?_
  refine x_iadd d_L_law_448 ?_
  refine x_ialdRo roScript (law_ix hN hi5 (j := 2) (by decide)) d_L_law_449 ?_
  have hQ := P j t c r p ct kp kr sl sr m (gx G (nI i + (1 : Int32)).toNatClampNeg) (gx G (nI i + (2 : Int32)).toNatClampNeg) hj hI
  refine x_invV (rest := []) (d' := d - 1) (mc' := 19) (ms' := 8122) [.int (gx G (nI i + (1 : Int32)).toNatClampNeg), .int (gx G (nI i + (2 : Int32)).toNatClampNeg)] k_X9_value lk_L_61 hX.1 rfl rfl rfl (Nat.le_of_ble_eq_true rfl) (by omega) hk hn d_L_law_450 ((sp_X9_value (d := d - 1) (by omega) hX hQ).mono (fun r9 w2 hr => ?_))
  obtain ⟨v1, rfl, hX, hF, hQ⟩ := hr
  have hM := has_Out hM hF
  refine x_aload_n 2 d_L_law_453 rfl rfl ?_
  refine x_aload_n 0 d_L_law_454 rfl rfl ?_
  refine x_iload_n 3 d_L_law_455 rfl rfl ?_
  refine x_iconst (v := (1 : Int32)) d_L_law_456 (by decide) ?_
  refine x_iadd d_L_law_457 ?_
  refine x_ialdRo roScript (law_ix hN hi5 (j := 1) (by decide)) d_L_law_458 ?_
  refine x_aload_n 0 d_L_law_459 rfl rfl ?_
  refine x_iload_n 3 d_L_law_460 rfl rfl ?_
  refine x_iconst (v := (2 : Int32)) d_L_law_461 (by decide) ?_
  refine x_iadd d_L_law_462 ?_
  refine x_ialdRo roScript (law_ix hN hi5 (j := 2) (by decide)) d_L_law_463 ?_
  have hsp := sp_X10_value (G := G) (l := l) (w := w2) (a := x + 33) (s := m) (d := d - 1) (by omega) hQ
  rw [has_eq hM] at hsp
  refine x_invV (rest := [.int v1]) (d' := d - 1) (mc' := 0) (ms' := 0) [.int (gx G (nI i + (1 : Int32)).toNatClampNeg), .int (gx G (nI i + (2 : Int32)).toNatClampNeg)] k_X10_value lk_L_64 (hM 0 (by decide)) rfl rfl rfl (Nat.le_of_ble_eq_true rfl) (by omega) hk hn d_L_law_464 (hsp.mono (fun r9 w3 hr => ?_))
  obtain ⟨v2, rfl, rfl, hv, hI⟩ := hr
  refine x_icmp_eq (tgt := 772) d_L_law_467 (by decide) (fun _ => ?_) (fun q => absurd hv q)
  exact law_end (k := k) (n := n) (Nat.le_trans (Nat.le_add_right k 19) hk) (Nat.le_trans (Nat.le_add_right n 8122) hn) hi5 hX hM hI (ih := ih)
set_option maxHeartbeats 4000000 in
theorem law_case_12 {G : GX} {l : Launch} {d x i j k n : Nat} {w : HW} {t c r p : RT} {ct : Int32} {kp : Nat → Option Nat} {kr : Nat → RT} {sl : Nat → Option Nat} {sr : Nat → RT} {m : RT} {Inv : Nat → RT → RT → RT → RT → Int32 → (Nat → Option Nat) → (Nat → RT) → (Nat → Option Nat) → (Nat → RT) → RT → Prop} (hd : 70 ≤ d) (hk : k + 19 ≤ 146680) (hn : n + 8122 ≤ 8662210) (hN : gN G ≤ 2560) (hi5 : i + 5 ≤ gN G) (hX : XW w x t c r p ct kp kr sl sr) (hM : Has w (x + 33) 22 (shM (x + 33) m)) (hj : j < 512) (hI : Inv j t c r p ct kp kr sl sr m) (P : PT_slope Inv) (ih : ∀ (i2 : Nat) (k2 n2 : Nat) (t c r p : RT) (ct : Int32) (kp : Nat → Option Nat) (kr : Nat → RT) (sl : Nat → Option Nat) (sr : Nat → RT) (m : RT) (w2 : HW), i2 = i + 5 → k2 ≤ k + 19 → n2 ≤ n + 8122 → XW w2 x t c r p ct kp kr sl sr → Has w2 (x + 33) 22 (shM (x + 33) m) → Inv (j + 1) t c r p ct kp kr sl sr m → X G l m_L_law d 146680 8662210 k2 n2 18 [(0, .ref (gb G)), (1, .ref x), (2, .ref (x + 33)), (3, .int (nI i2))] [] w2 (fun r9 _ => r9 = some (.int 1))) : X G l m_L_law d 146680 8662210 k n 472 [(0, .ref (gb G)), (1, .ref x), (2, .ref (x + 33)), (3, .int (nI i))] [] w (fun r9 _ => r9 = some (.int 1)) := by
  refine x_aload_n 1 d_L_law_472 rfl rfl ?_
  refine x_aload_n 0 d_L_law_473 rfl rfl ?_
  refine x_iload_n 3 d_L_law_474 rfl rfl ?_
  refine x_iconst (v := (1 : Int32)) d_L_law_475 (by decide) ?_
  refine x_iadd d_L_law_476 ?_
  refine x_ialdRo roScript (law_ix hN hi5 (j := 1) (by decide)) d_L_law_477 ?_
  refine x_aload_n 0 d_L_law_478 rfl rfl ?_
  refine x_iload_n 3 d_L_law_479 rfl rfl ?_
  refine x_iconst (v := (2 : Int32)) d_L_law_480 (by decide) ?_
  refine x_iadd d_L_law_481 ?_
  refine x_ialdRo roScript (law_ix hN hi5 (j := 2) (by decide)) d_L_law_482 ?_
  have hQ := P j t c r p ct kp kr sl sr m (gx G (nI i + (1 : Int32)).toNatClampNeg) (gx G (nI i + (2 : Int32)).toNatClampNeg) hj hI
  refine x_invV (rest := []) (d' := d - 1) (mc' := 19) (ms' := 8122) [.int (gx G (nI i + (1 : Int32)).toNatClampNeg), .int (gx G (nI i + (2 : Int32)).toNatClampNeg)] k_X9_slope lk_L_65 hX.1 rfl rfl rfl (Nat.le_of_ble_eq_true rfl) (by omega) hk hn d_L_law_483 ((sp_X9_slope (d := d - 1) (by omega) hX hQ).mono (fun r9 w2 hr => ?_))
  obtain ⟨v1, rfl, hX, hF, hQ⟩ := hr
  have hM := has_Out hM hF
  refine x_aload_n 2 d_L_law_486 rfl rfl ?_
  refine x_aload_n 0 d_L_law_487 rfl rfl ?_
  refine x_iload_n 3 d_L_law_488 rfl rfl ?_
  refine x_iconst (v := (1 : Int32)) d_L_law_489 (by decide) ?_
  refine x_iadd d_L_law_490 ?_
  refine x_ialdRo roScript (law_ix hN hi5 (j := 1) (by decide)) d_L_law_491 ?_
  refine x_aload_n 0 d_L_law_492 rfl rfl ?_
  refine x_iload_n 3 d_L_law_493 rfl rfl ?_
  refine x_iconst (v := (2 : Int32)) d_L_law_494 (by decide) ?_
  refine x_iadd d_L_law_495 ?_
  refine x_ialdRo roScript (law_ix hN hi5 (j := 2) (by decide)) d_L_law_496 ?_
  have hsp := sp_X10_slope (G := G) (l := l) (w := w2) (a := x + 33) (s := m) (d := d - 1) (by omega) hQ
  rw [has_eq hM] at hsp
  refine x_invV (rest := [.int v1]) (d' := d - 1) (mc' := 0) (ms' := 0) [.int (gx G (nI i + (1 : Int32)).toNatClampNeg), .int (gx G (nI i + (2 : Int32)).toNatClampNeg)] k_X10_slope lk_L_68 (hM 0 (by decide)) rfl rfl rfl (Nat.le_of_ble_eq_true rfl) (by omega) hk hn d_L_law_497 (hsp.mono (fun r9 w3 hr => ?_))
  obtain ⟨v2, rfl, rfl, hv, hI⟩ := hr
  refine x_icmp_eq (tgt := 772) d_L_law_500 (by decide) (fun _ => ?_) (fun q => absurd hv q)
  exact law_end (k := k) (n := n) (Nat.le_trans (Nat.le_add_right k 19) hk) (Nat.le_trans (Nat.le_add_right n 8122) hn) hi5 hX hM hI (ih := ih)
set_option maxHeartbeats 4000000 in
theorem law_case_13 {G : GX} {l : Launch} {d x i j k n : Nat} {w : HW} {t c r p : RT} {ct : Int32} {kp : Nat → Option Nat} {kr : Nat → RT} {sl : Nat → Option Nat} {sr : Nat → RT} {m : RT} {Inv : Nat → RT → RT → RT → RT → Int32 → (Nat → Option Nat) → (Nat → RT) → (Nat → Option Nat) → (Nat → RT) → RT → Prop} (hd : 70 ≤ d) (hk : k + 19 ≤ 146680) (hn : n + 8122 ≤ 8662210) (hN : gN G ≤ 2560) (hi5 : i + 5 ≤ gN G) (hX : XW w x t c r p ct kp kr sl sr) (hM : Has w (x + 33) 22 (shM (x + 33) m)) (hj : j < 512) (hI : Inv j t c r p ct kp kr sl sr m) (P : PT_rightAt Inv) (ih : ∀ (i2 : Nat) (k2 n2 : Nat) (t c r p : RT) (ct : Int32) (kp : Nat → Option Nat) (kr : Nat → RT) (sl : Nat → Option Nat) (sr : Nat → RT) (m : RT) (w2 : HW), i2 = i + 5 → k2 ≤ k + 19 → n2 ≤ n + 8122 → XW w2 x t c r p ct kp kr sl sr → Has w2 (x + 33) 22 (shM (x + 33) m) → Inv (j + 1) t c r p ct kp kr sl sr m → X G l m_L_law d 146680 8662210 k2 n2 18 [(0, .ref (gb G)), (1, .ref x), (2, .ref (x + 33)), (3, .int (nI i2))] [] w2 (fun r9 _ => r9 = some (.int 1))) : X G l m_L_law d 146680 8662210 k n 505 [(0, .ref (gb G)), (1, .ref x), (2, .ref (x + 33)), (3, .int (nI i))] [] w (fun r9 _ => r9 = some (.int 1)) := by
  refine x_aload_n 1 d_L_law_505 rfl rfl ?_
  refine x_aload_n 0 d_L_law_506 rfl rfl ?_
  refine x_iload_n 3 d_L_law_507 rfl rfl ?_
  refine x_iconst (v := (1 : Int32)) d_L_law_508 (by decide) ?_
  refine x_iadd d_L_law_509 ?_
  refine x_ialdRo roScript (law_ix hN hi5 (j := 1) (by decide)) d_L_law_510 ?_
  refine x_aload_n 0 d_L_law_511 rfl rfl ?_
  refine x_iload_n 3 d_L_law_512 rfl rfl ?_
  refine x_iconst (v := (2 : Int32)) d_L_law_513 (by decide) ?_
  refine x_iadd d_L_law_514 ?_
  refine x_ialdRo roScript (law_ix hN hi5 (j := 2) (by decide)) d_L_law_515 ?_
  have hQ := P j t c r p ct kp kr sl sr m (gx G (nI i + (1 : Int32)).toNatClampNeg) (gx G (nI i + (2 : Int32)).toNatClampNeg) hj hI
  refine x_invV (rest := []) (d' := d - 1) (mc' := 19) (ms' := 8122) [.int (gx G (nI i + (1 : Int32)).toNatClampNeg), .int (gx G (nI i + (2 : Int32)).toNatClampNeg)] k_X9_rightAt lk_L_69 hX.1 rfl rfl rfl (Nat.le_of_ble_eq_true rfl) (by omega) hk hn d_L_law_516 ((sp_X9_rightAt (d := d - 1) (by omega) hX hQ).mono (fun r9 w2 hr => ?_))
  obtain ⟨v1, p2, rfl, hX, hF, hQ⟩ := hr
  have hM := has_Out hM hF
  refine x_aload_n 2 d_L_law_519 rfl rfl ?_
  refine x_aload_n 0 d_L_law_520 rfl rfl ?_
  refine x_iload_n 3 d_L_law_521 rfl rfl ?_
  refine x_iconst (v := (1 : Int32)) d_L_law_522 (by decide) ?_
  refine x_iadd d_L_law_523 ?_
  refine x_ialdRo roScript (law_ix hN hi5 (j := 1) (by decide)) d_L_law_524 ?_
  refine x_aload_n 0 d_L_law_525 rfl rfl ?_
  refine x_iload_n 3 d_L_law_526 rfl rfl ?_
  refine x_iconst (v := (2 : Int32)) d_L_law_527 (by decide) ?_
  refine x_iadd d_L_law_528 ?_
  refine x_ialdRo roScript (law_ix hN hi5 (j := 2) (by decide)) d_L_law_529 ?_
  have hsp := sp_X10_rightAt (G := G) (l := l) (w := w2) (a := x + 33) (s := m) (d := d - 1) (by omega) hQ
  rw [has_eq hM] at hsp
  refine x_invV (rest := [.int v1]) (d' := d - 1) (mc' := 0) (ms' := 0) [.int (gx G (nI i + (1 : Int32)).toNatClampNeg), .int (gx G (nI i + (2 : Int32)).toNatClampNeg)] k_X10_rightAt lk_L_72 (hM 0 (by decide)) rfl rfl rfl (Nat.le_of_ble_eq_true rfl) (by omega) hk hn d_L_law_530 (hsp.mono (fun r9 w3 hr => ?_))
  obtain ⟨v2, m2, rfl, rfl, hv, hI⟩ := hr
  have hX := hX.putM (g := shM (x + 33) m2)
  have hM : Has (put w2 (x + 33) 22 (shM (x + 33) m2)) (x + 33) 22 (shM (x + 33) m2) := has_self
  refine x_icmp_eq (tgt := 772) d_L_law_533 (by decide) (fun _ => ?_) (fun q => absurd hv q)
  exact law_end (k := k) (n := n) (Nat.le_trans (Nat.le_add_right k 19) hk) (Nat.le_trans (Nat.le_add_right n 8122) hn) hi5 hX hM hI (ih := ih)
set_option maxHeartbeats 4000000 in
theorem law_case_14 {G : GX} {l : Launch} {d x i j k n : Nat} {w : HW} {t c r p : RT} {ct : Int32} {kp : Nat → Option Nat} {kr : Nat → RT} {sl : Nat → Option Nat} {sr : Nat → RT} {m : RT} {Inv : Nat → RT → RT → RT → RT → Int32 → (Nat → Option Nat) → (Nat → RT) → (Nat → Option Nat) → (Nat → RT) → RT → Prop} (hd : 70 ≤ d) (hk : k + 19 ≤ 146680) (hn : n + 8122 ≤ 8662210) (hN : gN G ≤ 2560) (hi5 : i + 5 ≤ gN G) (hX : XW w x t c r p ct kp kr sl sr) (hM : Has w (x + 33) 22 (shM (x + 33) m)) (hj : j < 512) (hI : Inv j t c r p ct kp kr sl sr m) (P : PT_step Inv) (ih : ∀ (i2 : Nat) (k2 n2 : Nat) (t c r p : RT) (ct : Int32) (kp : Nat → Option Nat) (kr : Nat → RT) (sl : Nat → Option Nat) (sr : Nat → RT) (m : RT) (w2 : HW), i2 = i + 5 → k2 ≤ k + 19 → n2 ≤ n + 8122 → XW w2 x t c r p ct kp kr sl sr → Has w2 (x + 33) 22 (shM (x + 33) m) → Inv (j + 1) t c r p ct kp kr sl sr m → X G l m_L_law d 146680 8662210 k2 n2 18 [(0, .ref (gb G)), (1, .ref x), (2, .ref (x + 33)), (3, .int (nI i2))] [] w2 (fun r9 _ => r9 = some (.int 1))) : X G l m_L_law d 146680 8662210 k n 538 [(0, .ref (gb G)), (1, .ref x), (2, .ref (x + 33)), (3, .int (nI i))] [] w (fun r9 _ => r9 = some (.int 1)) := by
  refine x_aload_n 1 d_L_law_538 rfl rfl ?_
  refine x_aload_n 0 d_L_law_539 rfl rfl ?_
  refine x_iload_n 3 d_L_law_540 rfl rfl ?_
  refine x_iconst (v := (1 : Int32)) d_L_law_541 (by decide) ?_
  refine x_iadd d_L_law_542 ?_
  refine x_ialdRo roScript (law_ix hN hi5 (j := 1) (by decide)) d_L_law_543 ?_
  refine x_aload_n 0 d_L_law_544 rfl rfl ?_
  refine x_iload_n 3 d_L_law_545 rfl rfl ?_
  refine x_iconst (v := (2 : Int32)) d_L_law_546 (by decide) ?_
  refine x_iadd d_L_law_547 ?_
  refine x_ialdRo roScript (law_ix hN hi5 (j := 2) (by decide)) d_L_law_548 ?_
  have hQ := P j t c r p ct kp kr sl sr m (gx G (nI i + (1 : Int32)).toNatClampNeg) (gx G (nI i + (2 : Int32)).toNatClampNeg) hj hI
  refine x_invV (rest := []) (d' := d - 1) (mc' := 19) (ms' := 8122) [.int (gx G (nI i + (1 : Int32)).toNatClampNeg), .int (gx G (nI i + (2 : Int32)).toNatClampNeg)] k_X9_step lk_L_73 hX.1 rfl rfl rfl (Nat.le_of_ble_eq_true rfl) (by omega) hk hn d_L_law_549 ((sp_X9_step (d := d - 1) (by omega) hX hQ).mono (fun r9 w2 hr => ?_))
  obtain ⟨v1, rfl, hX, hF, hQ⟩ := hr
  have hM := has_Out hM hF
  refine x_aload_n 2 d_L_law_552 rfl rfl ?_
  refine x_aload_n 0 d_L_law_553 rfl rfl ?_
  refine x_iload_n 3 d_L_law_554 rfl rfl ?_
  refine x_iconst (v := (1 : Int32)) d_L_law_555 (by decide) ?_
  refine x_iadd d_L_law_556 ?_
  refine x_ialdRo roScript (law_ix hN hi5 (j := 1) (by decide)) d_L_law_557 ?_
  refine x_aload_n 0 d_L_law_558 rfl rfl ?_
  refine x_iload_n 3 d_L_law_559 rfl rfl ?_
  refine x_iconst (v := (2 : Int32)) d_L_law_560 (by decide) ?_
  refine x_iadd d_L_law_561 ?_
  refine x_ialdRo roScript (law_ix hN hi5 (j := 2) (by decide)) d_L_law_562 ?_
  have hsp := sp_X10_step (G := G) (l := l) (w := w2) (a := x + 33) (s := m) (d := d - 1) (by omega) hQ
  rw [has_eq hM] at hsp
  refine x_invV (rest := [.int v1]) (d' := d - 1) (mc' := 0) (ms' := 0) [.int (gx G (nI i + (1 : Int32)).toNatClampNeg), .int (gx G (nI i + (2 : Int32)).toNatClampNeg)] k_X10_step lk_L_76 (hM 0 (by decide)) rfl rfl rfl (Nat.le_of_ble_eq_true rfl) (by omega) hk hn d_L_law_563 (hsp.mono (fun r9 w3 hr => ?_))
  obtain ⟨v2, rfl, rfl, hv, hI⟩ := hr
  refine x_icmp_eq (tgt := 772) d_L_law_566 (by decide) (fun _ => ?_) (fun q => absurd hv q)
  exact law_end (k := k) (n := n) (Nat.le_trans (Nat.le_add_right k 19) hk) (Nat.le_trans (Nat.le_add_right n 8122) hn) hi5 hX hM hI (ih := ih)
set_option maxHeartbeats 4000000 in
theorem law_case_15 {G : GX} {l : Launch} {d x i j k n : Nat} {w : HW} {t c r p : RT} {ct : Int32} {kp : Nat → Option Nat} {kr : Nat → RT} {sl : Nat → Option Nat} {sr : Nat → RT} {m : RT} {Inv : Nat → RT → RT → RT → RT → Int32 → (Nat → Option Nat) → (Nat → RT) → (Nat → Option Nat) → (Nat → RT) → RT → Prop} (hd : 70 ≤ d) (hk : k + 19 ≤ 146680) (hn : n + 8122 ≤ 8662210) (hN : gN G ≤ 2560) (hi5 : i + 5 ≤ gN G) (hX : XW w x t c r p ct kp kr sl sr) (hM : Has w (x + 33) 22 (shM (x + 33) m)) (hj : j < 512) (hI : Inv j t c r p ct kp kr sl sr m) (P : PT_crossing Inv) (ih : ∀ (i2 : Nat) (k2 n2 : Nat) (t c r p : RT) (ct : Int32) (kp : Nat → Option Nat) (kr : Nat → RT) (sl : Nat → Option Nat) (sr : Nat → RT) (m : RT) (w2 : HW), i2 = i + 5 → k2 ≤ k + 19 → n2 ≤ n + 8122 → XW w2 x t c r p ct kp kr sl sr → Has w2 (x + 33) 22 (shM (x + 33) m) → Inv (j + 1) t c r p ct kp kr sl sr m → X G l m_L_law d 146680 8662210 k2 n2 18 [(0, .ref (gb G)), (1, .ref x), (2, .ref (x + 33)), (3, .int (nI i2))] [] w2 (fun r9 _ => r9 = some (.int 1))) : X G l m_L_law d 146680 8662210 k n 571 [(0, .ref (gb G)), (1, .ref x), (2, .ref (x + 33)), (3, .int (nI i))] [] w (fun r9 _ => r9 = some (.int 1)) := by
  refine x_aload_n 1 d_L_law_571 rfl rfl ?_
  refine x_aload_n 0 d_L_law_572 rfl rfl ?_
  refine x_iload_n 3 d_L_law_573 rfl rfl ?_
  refine x_iconst (v := (1 : Int32)) d_L_law_574 (by decide) ?_
  refine x_iadd d_L_law_575 ?_
  refine x_ialdRo roScript (law_ix hN hi5 (j := 1) (by decide)) d_L_law_576 ?_
  refine x_aload_n 0 d_L_law_577 rfl rfl ?_
  refine x_iload_n 3 d_L_law_578 rfl rfl ?_
  refine x_iconst (v := (2 : Int32)) d_L_law_579 (by decide) ?_
  refine x_iadd d_L_law_580 ?_
  refine x_ialdRo roScript (law_ix hN hi5 (j := 2) (by decide)) d_L_law_581 ?_
  refine x_aload_n 0 d_L_law_582 rfl rfl ?_
  refine x_iload_n 3 d_L_law_583 rfl rfl ?_
  refine x_iconst (v := (3 : Int32)) d_L_law_584 (by decide) ?_
  refine x_iadd d_L_law_585 ?_
  refine x_ialdRo roScript (law_ix hN hi5 (j := 3) (by decide)) d_L_law_586 ?_
  have hQ := P j t c r p ct kp kr sl sr m (gx G (nI i + (1 : Int32)).toNatClampNeg) (gx G (nI i + (2 : Int32)).toNatClampNeg) (gx G (nI i + (3 : Int32)).toNatClampNeg) hj hI
  refine x_invV (rest := []) (d' := d - 1) (mc' := 19) (ms' := 8122) [.int (gx G (nI i + (1 : Int32)).toNatClampNeg), .int (gx G (nI i + (2 : Int32)).toNatClampNeg), .int (gx G (nI i + (3 : Int32)).toNatClampNeg)] k_X9_crossing lk_L_77 hX.1 rfl rfl rfl (Nat.le_of_ble_eq_true rfl) (by omega) hk hn d_L_law_587 ((sp_X9_crossing (d := d - 1) (by omega) hX hQ).mono (fun r9 w2 hr => ?_))
  obtain ⟨v1, rfl, hX, hF, hQ⟩ := hr
  have hM := has_Out hM hF
  refine x_aload_n 2 d_L_law_590 rfl rfl ?_
  refine x_aload_n 0 d_L_law_591 rfl rfl ?_
  refine x_iload_n 3 d_L_law_592 rfl rfl ?_
  refine x_iconst (v := (1 : Int32)) d_L_law_593 (by decide) ?_
  refine x_iadd d_L_law_594 ?_
  refine x_ialdRo roScript (law_ix hN hi5 (j := 1) (by decide)) d_L_law_595 ?_
  refine x_aload_n 0 d_L_law_596 rfl rfl ?_
  refine x_iload_n 3 d_L_law_597 rfl rfl ?_
  refine x_iconst (v := (2 : Int32)) d_L_law_598 (by decide) ?_
  refine x_iadd d_L_law_599 ?_
  refine x_ialdRo roScript (law_ix hN hi5 (j := 2) (by decide)) d_L_law_600 ?_
  refine x_aload_n 0 d_L_law_601 rfl rfl ?_
  refine x_iload_n 3 d_L_law_602 rfl rfl ?_
  refine x_iconst (v := (3 : Int32)) d_L_law_603 (by decide) ?_
  refine x_iadd d_L_law_604 ?_
  refine x_ialdRo roScript (law_ix hN hi5 (j := 3) (by decide)) d_L_law_605 ?_
  have hsp := sp_X10_crossing (G := G) (l := l) (w := w2) (a := x + 33) (s := m) (d := d - 1) (by omega) hQ
  rw [has_eq hM] at hsp
  refine x_invV (rest := [.int v1]) (d' := d - 1) (mc' := 0) (ms' := 0) [.int (gx G (nI i + (1 : Int32)).toNatClampNeg), .int (gx G (nI i + (2 : Int32)).toNatClampNeg), .int (gx G (nI i + (3 : Int32)).toNatClampNeg)] k_X10_crossing lk_L_80 (hM 0 (by decide)) rfl rfl rfl (Nat.le_of_ble_eq_true rfl) (by omega) hk hn d_L_law_606 (hsp.mono (fun r9 w3 hr => ?_))
  obtain ⟨v2, rfl, rfl, hv, hI⟩ := hr
  refine x_icmp_eq (tgt := 772) d_L_law_609 (by decide) (fun _ => ?_) (fun q => absurd hv q)
  exact law_end (k := k) (n := n) (Nat.le_trans (Nat.le_add_right k 19) hk) (Nat.le_trans (Nat.le_add_right n 8122) hn) hi5 hX hM hI (ih := ih)
set_option maxHeartbeats 4000000 in
theorem law_case_16 {G : GX} {l : Launch} {d x i j k n : Nat} {w : HW} {t c r p : RT} {ct : Int32} {kp : Nat → Option Nat} {kr : Nat → RT} {sl : Nat → Option Nat} {sr : Nat → RT} {m : RT} {Inv : Nat → RT → RT → RT → RT → Int32 → (Nat → Option Nat) → (Nat → RT) → (Nat → Option Nat) → (Nat → RT) → RT → Prop} (hd : 70 ≤ d) (hk : k + 19 ≤ 146680) (hn : n + 8122 ≤ 8662210) (hN : gN G ≤ 2560) (hi5 : i + 5 ≤ gN G) (hX : XW w x t c r p ct kp kr sl sr) (hM : Has w (x + 33) 22 (shM (x + 33) m)) (hj : j < 512) (hI : Inv j t c r p ct kp kr sl sr m) (P : PT_greatest Inv) (ih : ∀ (i2 : Nat) (k2 n2 : Nat) (t c r p : RT) (ct : Int32) (kp : Nat → Option Nat) (kr : Nat → RT) (sl : Nat → Option Nat) (sr : Nat → RT) (m : RT) (w2 : HW), i2 = i + 5 → k2 ≤ k + 19 → n2 ≤ n + 8122 → XW w2 x t c r p ct kp kr sl sr → Has w2 (x + 33) 22 (shM (x + 33) m) → Inv (j + 1) t c r p ct kp kr sl sr m → X G l m_L_law d 146680 8662210 k2 n2 18 [(0, .ref (gb G)), (1, .ref x), (2, .ref (x + 33)), (3, .int (nI i2))] [] w2 (fun r9 _ => r9 = some (.int 1))) : X G l m_L_law d 146680 8662210 k n 614 [(0, .ref (gb G)), (1, .ref x), (2, .ref (x + 33)), (3, .int (nI i))] [] w (fun r9 _ => r9 = some (.int 1)) := by
  refine x_aload_n 1 d_L_law_614 rfl rfl ?_
  refine x_aload_n 0 d_L_law_615 rfl rfl ?_
  refine x_iload_n 3 d_L_law_616 rfl rfl ?_
  refine x_iconst (v := (1 : Int32)) d_L_law_617 (by decide) ?_
  refine x_iadd d_L_law_618 ?_
  refine x_ialdRo roScript (law_ix hN hi5 (j := 1) (by decide)) d_L_law_619 ?_
  refine x_aload_n 0 d_L_law_620 rfl rfl ?_
  refine x_iload_n 3 d_L_law_621 rfl rfl ?_
  refine x_iconst (v := (2 : Int32)) d_L_law_622 (by decide) ?_
  refine x_iadd d_L_law_623 ?_
  refine x_ialdRo roScript (law_ix hN hi5 (j := 2) (by decide)) d_L_law_624 ?_
  refine x_aload_n 0 d_L_law_625 rfl rfl ?_
  refine x_iload_n 3 d_L_law_626 rfl rfl ?_
  refine x_iconst (v := (3 : Int32)) d_L_law_627 (by decide) ?_
  refine x_iadd d_L_law_628 ?_
  refine x_ialdRo roScript (law_ix hN hi5 (j := 3) (by decide)) d_L_law_629 ?_
  refine x_aload_n 0 d_L_law_630 rfl rfl ?_
  refine x_iload_n 3 d_L_law_631 rfl rfl ?_
  refine x_iconst (v := (4 : Int32)) d_L_law_632 (by decide) ?_
  refine x_iadd d_L_law_633 ?_
  refine x_ialdRo roScript (law_ix hN hi5 (j := 4) (by decide)) d_L_law_634 ?_
  have hQ := P j t c r p ct kp kr sl sr m (gx G (nI i + (1 : Int32)).toNatClampNeg) (gx G (nI i + (2 : Int32)).toNatClampNeg) (gx G (nI i + (3 : Int32)).toNatClampNeg) (gx G (nI i + (4 : Int32)).toNatClampNeg) hj hI
  refine x_invV (rest := []) (d' := d - 1) (mc' := 19) (ms' := 8122) [.int (gx G (nI i + (1 : Int32)).toNatClampNeg), .int (gx G (nI i + (2 : Int32)).toNatClampNeg), .int (gx G (nI i + (3 : Int32)).toNatClampNeg), .int (gx G (nI i + (4 : Int32)).toNatClampNeg)] k_X9_greatest lk_L_81 hX.1 rfl rfl rfl (Nat.le_of_ble_eq_true rfl) (by omega) hk hn d_L_law_635 ((sp_X9_greatest (d := d - 1) (by omega) hX hQ).mono (fun r9 w2 hr => ?_))
  obtain ⟨v1, rfl, hX, hF, hQ⟩ := hr
  have hM := has_Out hM hF
  refine x_aload_n 2 d_L_law_638 rfl rfl ?_
  refine x_aload_n 0 d_L_law_639 rfl rfl ?_
  refine x_iload_n 3 d_L_law_640 rfl rfl ?_
  refine x_iconst (v := (1 : Int32)) d_L_law_641 (by decide) ?_
  refine x_iadd d_L_law_642 ?_
  refine x_ialdRo roScript (law_ix hN hi5 (j := 1) (by decide)) d_L_law_643 ?_
  refine x_aload_n 0 d_L_law_644 rfl rfl ?_
  refine x_iload_n 3 d_L_law_645 rfl rfl ?_
  refine x_iconst (v := (2 : Int32)) d_L_law_646 (by decide) ?_
  refine x_iadd d_L_law_647 ?_
  refine x_ialdRo roScript (law_ix hN hi5 (j := 2) (by decide)) d_L_law_648 ?_
  refine x_aload_n 0 d_L_law_649 rfl rfl ?_
  refine x_iload_n 3 d_L_law_650 rfl rfl ?_
  refine x_iconst (v := (3 : Int32)) d_L_law_651 (by decide) ?_
  refine x_iadd d_L_law_652 ?_
  refine x_ialdRo roScript (law_ix hN hi5 (j := 3) (by decide)) d_L_law_653 ?_
  refine x_aload_n 0 d_L_law_654 rfl rfl ?_
  refine x_iload_n 3 d_L_law_655 rfl rfl ?_
  refine x_iconst (v := (4 : Int32)) d_L_law_656 (by decide) ?_
  refine x_iadd d_L_law_657 ?_
  refine x_ialdRo roScript (law_ix hN hi5 (j := 4) (by decide)) d_L_law_658 ?_
  have hsp := sp_X10_greatest (G := G) (l := l) (w := w2) (a := x + 33) (s := m) (d := d - 1) (by omega) hQ
  rw [has_eq hM] at hsp
  refine x_invV (rest := [.int v1]) (d' := d - 1) (mc' := 0) (ms' := 0) [.int (gx G (nI i + (1 : Int32)).toNatClampNeg), .int (gx G (nI i + (2 : Int32)).toNatClampNeg), .int (gx G (nI i + (3 : Int32)).toNatClampNeg), .int (gx G (nI i + (4 : Int32)).toNatClampNeg)] k_X10_greatest lk_L_85 (hM 0 (by decide)) rfl rfl rfl (Nat.le_of_ble_eq_true rfl) (by omega) hk hn d_L_law_659 (hsp.mono (fun r9 w3 hr => ?_))
  obtain ⟨v2, rfl, rfl, hv, hI⟩ := hr
  refine x_icmp_eq (tgt := 772) d_L_law_662 (by decide) (fun _ => ?_) (fun q => absurd hv q)
  exact law_end (k := k) (n := n) (Nat.le_trans (Nat.le_add_right k 19) hk) (Nat.le_trans (Nat.le_add_right n 8122) hn) hi5 hX hM hI (ih := ih)
set_option maxHeartbeats 4000000 in
theorem law_case_17 {G : GX} {l : Launch} {d x i j k n : Nat} {w : HW} {t c r p : RT} {ct : Int32} {kp : Nat → Option Nat} {kr : Nat → RT} {sl : Nat → Option Nat} {sr : Nat → RT} {m : RT} {Inv : Nat → RT → RT → RT → RT → Int32 → (Nat → Option Nat) → (Nat → RT) → (Nat → Option Nat) → (Nat → RT) → RT → Prop} (hd : 70 ≤ d) (hk : k + 19 ≤ 146680) (hn : n + 8122 ≤ 8662210) (hN : gN G ≤ 2560) (hi5 : i + 5 ≤ gN G) (hX : XW w x t c r p ct kp kr sl sr) (hM : Has w (x + 33) 22 (shM (x + 33) m)) (hj : j < 512) (hI : Inv j t c r p ct kp kr sl sr m) (P : PT_differs Inv) (ih : ∀ (i2 : Nat) (k2 n2 : Nat) (t c r p : RT) (ct : Int32) (kp : Nat → Option Nat) (kr : Nat → RT) (sl : Nat → Option Nat) (sr : Nat → RT) (m : RT) (w2 : HW), i2 = i + 5 → k2 ≤ k + 19 → n2 ≤ n + 8122 → XW w2 x t c r p ct kp kr sl sr → Has w2 (x + 33) 22 (shM (x + 33) m) → Inv (j + 1) t c r p ct kp kr sl sr m → X G l m_L_law d 146680 8662210 k2 n2 18 [(0, .ref (gb G)), (1, .ref x), (2, .ref (x + 33)), (3, .int (nI i2))] [] w2 (fun r9 _ => r9 = some (.int 1))) : X G l m_L_law d 146680 8662210 k n 667 [(0, .ref (gb G)), (1, .ref x), (2, .ref (x + 33)), (3, .int (nI i))] [] w (fun r9 _ => r9 = some (.int 1)) := by
  refine x_aload_n 1 d_L_law_667 rfl rfl ?_
  refine x_aload_n 0 d_L_law_668 rfl rfl ?_
  refine x_iload_n 3 d_L_law_669 rfl rfl ?_
  refine x_iconst (v := (1 : Int32)) d_L_law_670 (by decide) ?_
  refine x_iadd d_L_law_671 ?_
  refine x_ialdRo roScript (law_ix hN hi5 (j := 1) (by decide)) d_L_law_672 ?_
  have hQ := P j t c r p ct kp kr sl sr m (gx G (nI i + (1 : Int32)).toNatClampNeg) hj hI
  refine x_invV (rest := []) (d' := d - 1) (mc' := 19) (ms' := 8122) [.int (gx G (nI i + (1 : Int32)).toNatClampNeg)] k_X9_differs lk_L_86 hX.1 rfl rfl rfl (Nat.le_of_ble_eq_true rfl) (by omega) hk hn d_L_law_673 ((sp_X9_differs (d := d - 1) (by omega) hX hQ).mono (fun r9 w2 hr => ?_))
  obtain ⟨v1, r2, p2, rfl, hX, hF, hQ⟩ := hr
  have hM := has_Out hM hF
  refine x_aload_n 2 d_L_law_676 rfl rfl ?_
  refine x_aload_n 0 d_L_law_677 rfl rfl ?_
  refine x_iload_n 3 d_L_law_678 rfl rfl ?_
  refine x_iconst (v := (1 : Int32)) d_L_law_679 (by decide) ?_
  refine x_iadd d_L_law_680 ?_
  refine x_ialdRo roScript (law_ix hN hi5 (j := 1) (by decide)) d_L_law_681 ?_
  have hsp := sp_X10_differs (G := G) (l := l) (w := w2) (a := x + 33) (s := m) (d := d - 1) (by omega) hQ
  rw [has_eq hM] at hsp
  refine x_invV (rest := [.int v1]) (d' := d - 1) (mc' := 0) (ms' := 0) [.int (gx G (nI i + (1 : Int32)).toNatClampNeg)] k_X10_differs lk_L_89 (hM 0 (by decide)) rfl rfl rfl (Nat.le_of_ble_eq_true rfl) (by omega) hk hn d_L_law_682 (hsp.mono (fun r9 w3 hr => ?_))
  obtain ⟨v2, m2, rfl, rfl, hv, hI⟩ := hr
  have hX := hX.putM (g := shM (x + 33) m2)
  have hM : Has (put w2 (x + 33) 22 (shM (x + 33) m2)) (x + 33) 22 (shM (x + 33) m2) := has_self
  refine x_icmp_eq (tgt := 772) d_L_law_685 (by decide) (fun _ => ?_) (fun q => absurd hv q)
  exact law_end (k := k) (n := n) (Nat.le_trans (Nat.le_add_right k 19) hk) (Nat.le_trans (Nat.le_add_right n 8122) hn) hi5 hX hM hI (ih := ih)
set_option maxHeartbeats 4000000 in
theorem law_case_18 {G : GX} {l : Launch} {d x i j k n : Nat} {w : HW} {t c r p : RT} {ct : Int32} {kp : Nat → Option Nat} {kr : Nat → RT} {sl : Nat → Option Nat} {sr : Nat → RT} {m : RT} {Inv : Nat → RT → RT → RT → RT → Int32 → (Nat → Option Nat) → (Nat → RT) → (Nat → Option Nat) → (Nat → RT) → RT → Prop} (hd : 70 ≤ d) (hk : k + 19 ≤ 146680) (hn : n + 8122 ≤ 8662210) (hN : gN G ≤ 2560) (hi5 : i + 5 ≤ gN G) (hX : XW w x t c r p ct kp kr sl sr) (hM : Has w (x + 33) 22 (shM (x + 33) m)) (hj : j < 512) (hI : Inv j t c r p ct kp kr sl sr m) (P : PT_count Inv) (ih : ∀ (i2 : Nat) (k2 n2 : Nat) (t c r p : RT) (ct : Int32) (kp : Nat → Option Nat) (kr : Nat → RT) (sl : Nat → Option Nat) (sr : Nat → RT) (m : RT) (w2 : HW), i2 = i + 5 → k2 ≤ k + 19 → n2 ≤ n + 8122 → XW w2 x t c r p ct kp kr sl sr → Has w2 (x + 33) 22 (shM (x + 33) m) → Inv (j + 1) t c r p ct kp kr sl sr m → X G l m_L_law d 146680 8662210 k2 n2 18 [(0, .ref (gb G)), (1, .ref x), (2, .ref (x + 33)), (3, .int (nI i2))] [] w2 (fun r9 _ => r9 = some (.int 1))) : X G l m_L_law d 146680 8662210 k n 690 [(0, .ref (gb G)), (1, .ref x), (2, .ref (x + 33)), (3, .int (nI i))] [] w (fun r9 _ => r9 = some (.int 1)) := by
  refine x_aload_n 1 d_L_law_690 rfl rfl ?_
  refine x_aload_n 0 d_L_law_691 rfl rfl ?_
  refine x_iload_n 3 d_L_law_692 rfl rfl ?_
  refine x_iconst (v := (1 : Int32)) d_L_law_693 (by decide) ?_
  refine x_iadd d_L_law_694 ?_
  refine x_ialdRo roScript (law_ix hN hi5 (j := 1) (by decide)) d_L_law_695 ?_
  have hQ := P j t c r p ct kp kr sl sr m (gx G (nI i + (1 : Int32)).toNatClampNeg) hj hI
  refine x_invV (rest := []) (d' := d - 1) (mc' := 19) (ms' := 8122) [.int (gx G (nI i + (1 : Int32)).toNatClampNeg)] k_X9_count lk_L_90 hX.1 rfl rfl rfl (Nat.le_of_ble_eq_true rfl) (by omega) hk hn d_L_law_696 ((sp_X9_count (d := d - 1) (by omega) hX hQ).mono (fun r9 w2 hr => ?_))
  obtain ⟨v1, rfl, hX, hF, hQ⟩ := hr
  have hM := has_Out hM hF
  refine x_aload_n 2 d_L_law_699 rfl rfl ?_
  refine x_aload_n 0 d_L_law_700 rfl rfl ?_
  refine x_iload_n 3 d_L_law_701 rfl rfl ?_
  refine x_iconst (v := (1 : Int32)) d_L_law_702 (by decide) ?_
  refine x_iadd d_L_law_703 ?_
  refine x_ialdRo roScript (law_ix hN hi5 (j := 1) (by decide)) d_L_law_704 ?_
  have hsp := sp_X10_count (G := G) (l := l) (w := w2) (a := x + 33) (s := m) (d := d - 1) (by omega) hQ
  rw [has_eq hM] at hsp
  refine x_invV (rest := [.int v1]) (d' := d - 1) (mc' := 0) (ms' := 0) [.int (gx G (nI i + (1 : Int32)).toNatClampNeg)] k_X10_count lk_L_93 (hM 0 (by decide)) rfl rfl rfl (Nat.le_of_ble_eq_true rfl) (by omega) hk hn d_L_law_705 (hsp.mono (fun r9 w3 hr => ?_))
  obtain ⟨v2, rfl, rfl, hv, hI⟩ := hr
  refine x_icmp_eq (tgt := 772) d_L_law_708 (by decide) (fun _ => ?_) (fun q => absurd hv q)
  exact law_end (k := k) (n := n) (Nat.le_trans (Nat.le_add_right k 19) hk) (Nat.le_trans (Nat.le_add_right n 8122) hn) hi5 hX hM hI (ih := ih)
set_option maxHeartbeats 4000000 in
theorem law_case_19 {G : GX} {l : Launch} {d x i j k n : Nat} {w : HW} {t c r p : RT} {ct : Int32} {kp : Nat → Option Nat} {kr : Nat → RT} {sl : Nat → Option Nat} {sr : Nat → RT} {m : RT} {Inv : Nat → RT → RT → RT → RT → Int32 → (Nat → Option Nat) → (Nat → RT) → (Nat → Option Nat) → (Nat → RT) → RT → Prop} (hd : 70 ≤ d) (hk : k + 19 ≤ 146680) (hn : n + 8122 ≤ 8662210) (hN : gN G ≤ 2560) (hi5 : i + 5 ≤ gN G) (hX : XW w x t c r p ct kp kr sl sr) (hM : Has w (x + 33) 22 (shM (x + 33) m)) (hj : j < 512) (hI : Inv j t c r p ct kp kr sl sr m) (P : PT_undo Inv) (ih : ∀ (i2 : Nat) (k2 n2 : Nat) (t c r p : RT) (ct : Int32) (kp : Nat → Option Nat) (kr : Nat → RT) (sl : Nat → Option Nat) (sr : Nat → RT) (m : RT) (w2 : HW), i2 = i + 5 → k2 ≤ k + 19 → n2 ≤ n + 8122 → XW w2 x t c r p ct kp kr sl sr → Has w2 (x + 33) 22 (shM (x + 33) m) → Inv (j + 1) t c r p ct kp kr sl sr m → X G l m_L_law d 146680 8662210 k2 n2 18 [(0, .ref (gb G)), (1, .ref x), (2, .ref (x + 33)), (3, .int (nI i2))] [] w2 (fun r9 _ => r9 = some (.int 1))) : X G l m_L_law d 146680 8662210 k n 713 [(0, .ref (gb G)), (1, .ref x), (2, .ref (x + 33)), (3, .int (nI i))] [] w (fun r9 _ => r9 = some (.int 1)) := by
  refine x_aload_n 1 d_L_law_713 rfl rfl ?_
  have hQ := P j t c r p ct kp kr sl sr m  hj hI
  refine x_invV (rest := []) (d' := d - 1) (mc' := 19) (ms' := 8122) [] k_X9_undo lk_L_94 hX.1 rfl rfl rfl (Nat.le_of_ble_eq_true rfl) (by omega) hk hn d_L_law_714 ((sp_X9_undo (d := d - 1) (by omega) hX hQ).mono (fun r9 w2 hr => ?_))
  obtain ⟨v1, c2, ct2, rfl, hX, hF, hQ⟩ := hr
  have hM := has_Out hM hF
  refine x_aload_n 2 d_L_law_717 rfl rfl ?_
  have hsp := sp_X10_undo (G := G) (l := l) (w := w2) (a := x + 33) (s := m) (d := d - 1) (by omega) hQ
  rw [has_eq hM] at hsp
  refine x_invV (rest := [.int v1]) (d' := d - 1) (mc' := 0) (ms' := 0) [] k_X10_undo lk_L_97 (hM 0 (by decide)) rfl rfl rfl (Nat.le_of_ble_eq_true rfl) (by omega) hk hn d_L_law_718 (hsp.mono (fun r9 w3 hr => ?_))
  obtain ⟨v2, m2, rfl, rfl, hv, hI⟩ := hr
  have hX := hX.putM (g := shM (x + 33) m2)
  have hM : Has (put w2 (x + 33) 22 (shM (x + 33) m2)) (x + 33) 22 (shM (x + 33) m2) := has_self
  refine x_icmp_eq (tgt := 772) d_L_law_721 (by decide) (fun _ => ?_) (fun q => absurd hv q)
  exact law_end (k := k) (n := n) (Nat.le_trans (Nat.le_add_right k 19) hk) (Nat.le_trans (Nat.le_add_right n 8122) hn) hi5 hX hM hI (ih := ih)
set_option maxHeartbeats 4000000 in
theorem law_case_20 {G : GX} {l : Launch} {d x i j k n : Nat} {w : HW} {t c r p : RT} {ct : Int32} {kp : Nat → Option Nat} {kr : Nat → RT} {sl : Nat → Option Nat} {sr : Nat → RT} {m : RT} {Inv : Nat → RT → RT → RT → RT → Int32 → (Nat → Option Nat) → (Nat → RT) → (Nat → Option Nat) → (Nat → RT) → RT → Prop} (hd : 70 ≤ d) (hk : k + 19 ≤ 146680) (hn : n + 8122 ≤ 8662210) (hN : gN G ≤ 2560) (hi5 : i + 5 ≤ gN G) (hX : XW w x t c r p ct kp kr sl sr) (hM : Has w (x + 33) 22 (shM (x + 33) m)) (hj : j < 512) (hI : Inv j t c r p ct kp kr sl sr m) (P : PT_save Inv) (ih : ∀ (i2 : Nat) (k2 n2 : Nat) (t c r p : RT) (ct : Int32) (kp : Nat → Option Nat) (kr : Nat → RT) (sl : Nat → Option Nat) (sr : Nat → RT) (m : RT) (w2 : HW), i2 = i + 5 → k2 ≤ k + 19 → n2 ≤ n + 8122 → XW w2 x t c r p ct kp kr sl sr → Has w2 (x + 33) 22 (shM (x + 33) m) → Inv (j + 1) t c r p ct kp kr sl sr m → X G l m_L_law d 146680 8662210 k2 n2 18 [(0, .ref (gb G)), (1, .ref x), (2, .ref (x + 33)), (3, .int (nI i2))] [] w2 (fun r9 _ => r9 = some (.int 1))) : X G l m_L_law d 146680 8662210 k n 726 [(0, .ref (gb G)), (1, .ref x), (2, .ref (x + 33)), (3, .int (nI i))] [] w (fun r9 _ => r9 = some (.int 1)) := by
  refine x_aload_n 1 d_L_law_726 rfl rfl ?_
  refine x_aload_n 0 d_L_law_727 rfl rfl ?_
  refine x_iload_n 3 d_L_law_728 rfl rfl ?_
  refine x_iconst (v := (1 : Int32)) d_L_law_729 (by decide) ?_
  refine x_iadd d_L_law_730 ?_
  refine x_ialdRo roScript (law_ix hN hi5 (j := 1) (by decide)) d_L_law_731 ?_
  have hQ := P j t c r p ct kp kr sl sr m (gx G (nI i + (1 : Int32)).toNatClampNeg) hj hI
  refine x_invV (rest := []) (d' := d - 1) (mc' := 19) (ms' := 8122) [.int (gx G (nI i + (1 : Int32)).toNatClampNeg)] k_X9_save lk_L_98 hX.1 rfl rfl rfl (Nat.le_of_ble_eq_true rfl) (by omega) hk hn d_L_law_732 ((sp_X9_save (d := d - 1) (by omega) hX hQ).mono (fun r9 w2 hr => ?_))
  obtain ⟨v1, sl2, sr2, rfl, hX, hF, hQ⟩ := hr
  have hM := has_Out hM hF
  refine x_aload_n 2 d_L_law_735 rfl rfl ?_
  refine x_aload_n 0 d_L_law_736 rfl rfl ?_
  refine x_iload_n 3 d_L_law_737 rfl rfl ?_
  refine x_iconst (v := (1 : Int32)) d_L_law_738 (by decide) ?_
  refine x_iadd d_L_law_739 ?_
  refine x_ialdRo roScript (law_ix hN hi5 (j := 1) (by decide)) d_L_law_740 ?_
  have hsp := sp_X10_save (G := G) (l := l) (w := w2) (a := x + 33) (s := m) (d := d - 1) (by omega) hQ
  rw [has_eq hM] at hsp
  refine x_invV (rest := [.int v1]) (d' := d - 1) (mc' := 0) (ms' := 0) [.int (gx G (nI i + (1 : Int32)).toNatClampNeg)] k_X10_save lk_L_101 (hM 0 (by decide)) rfl rfl rfl (Nat.le_of_ble_eq_true rfl) (by omega) hk hn d_L_law_741 (hsp.mono (fun r9 w3 hr => ?_))
  obtain ⟨v2, m2, rfl, rfl, hv, hI⟩ := hr
  have hX := hX.putM (g := shM (x + 33) m2)
  have hM : Has (put w2 (x + 33) 22 (shM (x + 33) m2)) (x + 33) 22 (shM (x + 33) m2) := has_self
  refine x_icmp_eq (tgt := 772) d_L_law_744 (by decide) (fun _ => ?_) (fun q => absurd hv q)
  exact law_end (k := k) (n := n) (Nat.le_trans (Nat.le_add_right k 19) hk) (Nat.le_trans (Nat.le_add_right n 8122) hn) hi5 hX hM hI (ih := ih)
set_option maxHeartbeats 4000000 in
theorem law_case_21 {G : GX} {l : Launch} {d x i j k n : Nat} {w : HW} {t c r p : RT} {ct : Int32} {kp : Nat → Option Nat} {kr : Nat → RT} {sl : Nat → Option Nat} {sr : Nat → RT} {m : RT} {Inv : Nat → RT → RT → RT → RT → Int32 → (Nat → Option Nat) → (Nat → RT) → (Nat → Option Nat) → (Nat → RT) → RT → Prop} (hd : 70 ≤ d) (hk : k + 19 ≤ 146680) (hn : n + 8122 ≤ 8662210) (hN : gN G ≤ 2560) (hi5 : i + 5 ≤ gN G) (hX : XW w x t c r p ct kp kr sl sr) (hM : Has w (x + 33) 22 (shM (x + 33) m)) (hj : j < 512) (hI : Inv j t c r p ct kp kr sl sr m) (P : PT_restore Inv) (ih : ∀ (i2 : Nat) (k2 n2 : Nat) (t c r p : RT) (ct : Int32) (kp : Nat → Option Nat) (kr : Nat → RT) (sl : Nat → Option Nat) (sr : Nat → RT) (m : RT) (w2 : HW), i2 = i + 5 → k2 ≤ k + 19 → n2 ≤ n + 8122 → XW w2 x t c r p ct kp kr sl sr → Has w2 (x + 33) 22 (shM (x + 33) m) → Inv (j + 1) t c r p ct kp kr sl sr m → X G l m_L_law d 146680 8662210 k2 n2 18 [(0, .ref (gb G)), (1, .ref x), (2, .ref (x + 33)), (3, .int (nI i2))] [] w2 (fun r9 _ => r9 = some (.int 1))) : X G l m_L_law d 146680 8662210 k n 749 [(0, .ref (gb G)), (1, .ref x), (2, .ref (x + 33)), (3, .int (nI i))] [] w (fun r9 _ => r9 = some (.int 1)) := by
  refine x_aload_n 1 d_L_law_749 rfl rfl ?_
  refine x_aload_n 0 d_L_law_750 rfl rfl ?_
  refine x_iload_n 3 d_L_law_751 rfl rfl ?_
  refine x_iconst (v := (1 : Int32)) d_L_law_752 (by decide) ?_
  refine x_iadd d_L_law_753 ?_
  refine x_ialdRo roScript (law_ix hN hi5 (j := 1) (by decide)) d_L_law_754 ?_
  have hQ := P j t c r p ct kp kr sl sr m (gx G (nI i + (1 : Int32)).toNatClampNeg) hj hI
  refine x_invV (rest := []) (d' := d - 1) (mc' := 19) (ms' := 8122) [.int (gx G (nI i + (1 : Int32)).toNatClampNeg)] k_X9_restore lk_L_102 hX.1 rfl rfl rfl (Nat.le_of_ble_eq_true rfl) (by omega) hk hn d_L_law_755 ((sp_X9_restore (d := d - 1) (by omega) hX hQ).mono (fun r9 w2 hr => ?_))
  obtain ⟨v1, c2, ct2, kp2, kr2, rfl, hX, hF, hQ⟩ := hr
  have hM := has_Out hM hF
  refine x_aload_n 2 d_L_law_758 rfl rfl ?_
  refine x_aload_n 0 d_L_law_759 rfl rfl ?_
  refine x_iload_n 3 d_L_law_760 rfl rfl ?_
  refine x_iconst (v := (1 : Int32)) d_L_law_761 (by decide) ?_
  refine x_iadd d_L_law_762 ?_
  refine x_ialdRo roScript (law_ix hN hi5 (j := 1) (by decide)) d_L_law_763 ?_
  have hsp := sp_X10_restore (G := G) (l := l) (w := w2) (a := x + 33) (s := m) (d := d - 1) (by omega) hQ
  rw [has_eq hM] at hsp
  refine x_invV (rest := [.int v1]) (d' := d - 1) (mc' := 0) (ms' := 0) [.int (gx G (nI i + (1 : Int32)).toNatClampNeg)] k_X10_restore lk_L_105 (hM 0 (by decide)) rfl rfl rfl (Nat.le_of_ble_eq_true rfl) (by omega) hk hn d_L_law_764 (hsp.mono (fun r9 w3 hr => ?_))
  obtain ⟨v2, m2, rfl, rfl, hv, hI⟩ := hr
  have hX := hX.putM (g := shM (x + 33) m2)
  have hM : Has (put w2 (x + 33) 22 (shM (x + 33) m2)) (x + 33) 22 (shM (x + 33) m2) := has_self
  refine x_icmp_eq (tgt := 772) d_L_law_767 (by decide) (fun _ => ?_) (fun q => absurd hv q)
  exact law_end (k := k) (n := n) (Nat.le_trans (Nat.le_add_right k 19) hk) (Nat.le_trans (Nat.le_add_right n 8122) hn) hi5 hX hM hI (ih := ih)
set_option maxHeartbeats 4000000 in
theorem law_loop {G : GX} {l : Launch} {d x : Nat} {Inv : Nat → RT → RT → RT → RT → Int32 → (Nat → Option Nat) → (Nat → RT) → (Nat → Option Nat) → (Nat → RT) → RT → Prop} (hd : 70 ≤ d) (hN : gN G ≤ 2560) (P_idle : PT_idle Inv) (P_type : PT_type Inv) (P_wipe : PT_wipe Inv) (P_fault : PT_fault Inv) (P_right : PT_right Inv) (P_delay : PT_delay Inv) (P_point : PT_point Inv) (P_clear : PT_clear Inv) (P_set : PT_set Inv) (P_lag : PT_lag Inv) (P_breakAt : PT_breakAt Inv) (P_solve : PT_solve Inv) (P_value : PT_value Inv) (P_slope : PT_slope Inv) (P_rightAt : PT_rightAt Inv) (P_step : PT_step Inv) (P_crossing : PT_crossing Inv) (P_greatest : PT_greatest Inv) (P_differs : PT_differs Inv) (P_count : PT_count Inv) (P_undo : PT_undo Inv) (P_save : PT_save Inv) (P_restore : PT_restore Inv) : ∀ (f i j k n : Nat) (t c r p : RT) (ct : Int32) (kp : Nat → Option Nat) (kr : Nat → RT) (sl : Nat → Option Nat) (sr : Nat → RT) (m : RT) (w : HW), gN G + 5 < i + 5 * f → i ≤ gN G + 5 → k + 19 * f ≤ 146680 → n + 8122 * f ≤ 8662210 → XW w x t c r p ct kp kr sl sr → Has w (x + 33) 22 (shM (x + 33) m) → i = 5 * j → Inv j t c r p ct kp kr sl sr m → X G l m_L_law d 146680 8662210 k n 18 [(0, .ref (gb G)), (1, .ref x), (2, .ref (x + 33)), (3, .int (nI i))] [] w (fun r9 _ => r9 = some (.int 1)) := by
  intro f
  induction f with
  | zero =>
    intro i j k n t c r p ct kp kr sl sr m w h1 h2
    exact absurd h1 (by omega)
  | succ f ih0 =>
    intro i j k n t c r p ct kp kr sl sr m w hf hi hk0 hn0 hX hM hij hI
    have hk : k + 19 ≤ 146680 := budget1 hk0
    have hn : n + 8122 ≤ 8662210 := budget1 hn0
    refine x_iload_n 3 d_L_law_18 rfl rfl ?_
    refine x_aload_n 0 d_L_law_19 rfl rfl ?_
    refine x_alenRo roScript d_L_law_20 ?_
    refine x_iconst (v := (5 : Int32)) d_L_law_21 (by decide) ?_
    refine x_isub d_L_law_22 ?_
    refine x_icmp_gt (tgt := 778) d_L_law_23 (by decide) (fun q => ?_) (fun q => ?_)
    · refine x_iconst (v := (1 : Int32)) d_L_law_778 (by decide) ?_
      exact x_iret (retB d_L_law_779 rfl rfl) rfl
    · have hi5 : i + 5 ≤ gN G := law_in hN hi q
      refine x_aload_n 0 d_L_law_26 rfl rfl ?_
      refine x_iload_n 3 d_L_law_27 rfl rfl ?_
      refine x_ialdRo roScript (law_i0 hN hi5) d_L_law_28 ?_
      have ih : ∀ (i2 : Nat) (k2 n2 : Nat) (t c r p : RT) (ct : Int32) (kp : Nat → Option Nat) (kr : Nat → RT) (sl : Nat → Option Nat) (sr : Nat → RT) (m : RT) (w2 : HW), i2 = i + 5 → k2 ≤ k + 19 → n2 ≤ n + 8122 → XW w2 x t c r p ct kp kr sl sr → Has w2 (x + 33) 22 (shM (x + 33) m) → Inv (j + 1) t c r p ct kp kr sl sr m → X G l m_L_law d 146680 8662210 k2 n2 18 [(0, .ref (gb G)), (1, .ref x), (2, .ref (x + 33)), (3, .int (nI i2))] [] w2 (fun r9 _ => r9 = some (.int 1)) := by
        intro i2 k2 n2 t c r p ct kp kr sl sr m w2 e1 e2 e3 hX hM hI
        exact ih0 i2 (j + 1) k2 n2 t c r p ct kp kr sl sr m w2 (by omega) (by omega) (budget e2 hk0) (budget e3 hn0) hX hM (by omega) hI
      have hj : j < 512 := by omega
      refine x_bipush (v := (31 : Int32)) d_L_law_29 (by decide) ?_
      refine x_iand d_L_law_31 ?_
      refine x_topi (fun y ey => ?_)
      by_cases c0 : y = (0 : Int32)
      · refine x_tableIn (off := (104 : Int)) (tgt := 136) d_L_law_32 (by rw [c0]; decide) (by rw [c0]; decide) (by rw [c0]; rfl) (by decide) ?_
        exact law_case_0 hd hk hn hN hi5 hX hM hj hI P_type ih
      by_cases c1 : y = (1 : Int32)
      · refine x_tableIn (off := (127 : Int)) (tgt := 159) d_L_law_32 (by rw [c1]; decide) (by rw [c1]; decide) (by rw [c1]; rfl) (by decide) ?_
        exact law_case_1 hd hk hn hN hi5 hX hM hj hI P_wipe ih
      by_cases c2 : y = (2 : Int32)
      · refine x_tableIn (off := (140 : Int)) (tgt := 172) d_L_law_32 (by rw [c2]; decide) (by rw [c2]; decide) (by rw [c2]; rfl) (by decide) ?_
        exact law_case_2 hd hk hn hN hi5 hX hM hj hI P_fault ih
      by_cases c3 : y = (3 : Int32)
      · refine x_tableIn (off := (153 : Int)) (tgt := 185) d_L_law_32 (by rw [c3]; decide) (by rw [c3]; decide) (by rw [c3]; rfl) (by decide) ?_
        exact law_case_3 hd hk hn hN hi5 hX hM hj hI P_right ih
      by_cases c4 : y = (4 : Int32)
      · refine x_tableIn (off := (176 : Int)) (tgt := 208) d_L_law_32 (by rw [c4]; decide) (by rw [c4]; decide) (by rw [c4]; rfl) (by decide) ?_
        exact law_case_4 hd hk hn hN hi5 hX hM hj hI P_delay ih
      by_cases c5 : y = (5 : Int32)
      · refine x_tableIn (off := (219 : Int)) (tgt := 251) d_L_law_32 (by rw [c5]; decide) (by rw [c5]; decide) (by rw [c5]; rfl) (by decide) ?_
        exact law_case_5 hd hk hn hN hi5 hX hM hj hI P_point ih
      by_cases c6 : y = (6 : Int32)
      · refine x_tableIn (off := (262 : Int)) (tgt := 294) d_L_law_32 (by rw [c6]; decide) (by rw [c6]; decide) (by rw [c6]; rfl) (by decide) ?_
        exact law_case_6 hd hk hn hN hi5 hX hM hj hI P_clear ih
      by_cases c7 : y = (7 : Int32)
      · refine x_tableIn (off := (285 : Int)) (tgt := 317) d_L_law_32 (by rw [c7]; decide) (by rw [c7]; decide) (by rw [c7]; rfl) (by decide) ?_
        exact law_case_7 hd hk hn hN hi5 hX hM hj hI P_set ih
      by_cases c8 : y = (8 : Int32)
      · refine x_tableIn (off := (318 : Int)) (tgt := 350) d_L_law_32 (by rw [c8]; decide) (by rw [c8]; decide) (by rw [c8]; rfl) (by decide) ?_
        exact law_case_8 hd hk hn hN hi5 hX hM hj hI P_lag ih
      by_cases c9 : y = (9 : Int32)
      · refine x_tableIn (off := (351 : Int)) (tgt := 383) d_L_law_32 (by rw [c9]; decide) (by rw [c9]; decide) (by rw [c9]; rfl) (by decide) ?_
        exact law_case_9 hd hk hn hN hi5 hX hM hj hI P_breakAt ih
      by_cases c10 : y = (10 : Int32)
      · refine x_tableIn (off := (384 : Int)) (tgt := 416) d_L_law_32 (by rw [c10]; decide) (by rw [c10]; decide) (by rw [c10]; rfl) (by decide) ?_
        exact law_case_10 hd hk hn hN hi5 hX hM hj hI P_solve ih
      by_cases c11 : y = (11 : Int32)
      · refine x_tableIn (off := (407 : Int)) (tgt := 439) d_L_law_32 (by rw [c11]; decide) (by rw [c11]; decide) (by rw [c11]; rfl) (by decide) ?_
        exact law_case_11 hd hk hn hN hi5 hX hM hj hI P_value ih
      by_cases c12 : y = (12 : Int32)
      · refine x_tableIn (off := (440 : Int)) (tgt := 472) d_L_law_32 (by rw [c12]; decide) (by rw [c12]; decide) (by rw [c12]; rfl) (by decide) ?_
        exact law_case_12 hd hk hn hN hi5 hX hM hj hI P_slope ih
      by_cases c13 : y = (13 : Int32)
      · refine x_tableIn (off := (473 : Int)) (tgt := 505) d_L_law_32 (by rw [c13]; decide) (by rw [c13]; decide) (by rw [c13]; rfl) (by decide) ?_
        exact law_case_13 hd hk hn hN hi5 hX hM hj hI P_rightAt ih
      by_cases c14 : y = (14 : Int32)
      · refine x_tableIn (off := (506 : Int)) (tgt := 538) d_L_law_32 (by rw [c14]; decide) (by rw [c14]; decide) (by rw [c14]; rfl) (by decide) ?_
        exact law_case_14 hd hk hn hN hi5 hX hM hj hI P_step ih
      by_cases c15 : y = (15 : Int32)
      · refine x_tableIn (off := (539 : Int)) (tgt := 571) d_L_law_32 (by rw [c15]; decide) (by rw [c15]; decide) (by rw [c15]; rfl) (by decide) ?_
        exact law_case_15 hd hk hn hN hi5 hX hM hj hI P_crossing ih
      by_cases c16 : y = (16 : Int32)
      · refine x_tableIn (off := (582 : Int)) (tgt := 614) d_L_law_32 (by rw [c16]; decide) (by rw [c16]; decide) (by rw [c16]; rfl) (by decide) ?_
        exact law_case_16 hd hk hn hN hi5 hX hM hj hI P_greatest ih
      by_cases c17 : y = (17 : Int32)
      · refine x_tableIn (off := (635 : Int)) (tgt := 667) d_L_law_32 (by rw [c17]; decide) (by rw [c17]; decide) (by rw [c17]; rfl) (by decide) ?_
        exact law_case_17 hd hk hn hN hi5 hX hM hj hI P_differs ih
      by_cases c18 : y = (18 : Int32)
      · refine x_tableIn (off := (658 : Int)) (tgt := 690) d_L_law_32 (by rw [c18]; decide) (by rw [c18]; decide) (by rw [c18]; rfl) (by decide) ?_
        exact law_case_18 hd hk hn hN hi5 hX hM hj hI P_count ih
      by_cases c19 : y = (19 : Int32)
      · refine x_tableIn (off := (681 : Int)) (tgt := 713) d_L_law_32 (by rw [c19]; decide) (by rw [c19]; decide) (by rw [c19]; rfl) (by decide) ?_
        exact law_case_19 hd hk hn hN hi5 hX hM hj hI P_undo ih
      by_cases c20 : y = (20 : Int32)
      · refine x_tableIn (off := (694 : Int)) (tgt := 726) d_L_law_32 (by rw [c20]; decide) (by rw [c20]; decide) (by rw [c20]; rfl) (by decide) ?_
        exact law_case_20 hd hk hn hN hi5 hX hM hj hI P_save ih
      by_cases c21 : y = (21 : Int32)
      · refine x_tableIn (off := (717 : Int)) (tgt := 749) d_L_law_32 (by rw [c21]; decide) (by rw [c21]; decide) (by rw [c21]; rfl) (by decide) ?_
        exact law_case_21 hd hk hn hN hi5 hX hM hj hI P_restore ih
      refine x_tableOut (tgt := 772) d_L_law_32 (sw_out 0 21 y (fun v h1 h2 => by
        have h3 : v = 0 ∨ v = 1 ∨ v = 2 ∨ v = 3 ∨ v = 4 ∨ v = 5 ∨ v = 6 ∨ v = 7 ∨ v = 8 ∨ v = 9 ∨ v = 10 ∨ v = 11 ∨ v = 12 ∨ v = 13 ∨ v = 14 ∨ v = 15 ∨ v = 16 ∨ v = 17 ∨ v = 18 ∨ v = 19 ∨ v = 20 ∨ v = 21 := by omega
        rcases h3 with rfl | rfl | rfl | rfl | rfl | rfl | rfl | rfl | rfl | rfl | rfl | rfl | rfl | rfl | rfl | rfl | rfl | rfl | rfl | rfl | rfl | rfl <;> first | exact sw_ne c0 (by decide) | exact sw_ne c1 (by decide) | exact sw_ne c2 (by decide) | exact sw_ne c3 (by decide) | exact sw_ne c4 (by decide) | exact sw_ne c5 (by decide) | exact sw_ne c6 (by decide) | exact sw_ne c7 (by decide) | exact sw_ne c8 (by decide) | exact sw_ne c9 (by decide) | exact sw_ne c10 (by decide) | exact sw_ne c11 (by decide) | exact sw_ne c12 (by decide) | exact sw_ne c13 (by decide) | exact sw_ne c14 (by decide) | exact sw_ne c15 (by decide) | exact sw_ne c16 (by decide) | exact sw_ne c17 (by decide) | exact sw_ne c18 (by decide) | exact sw_ne c19 (by decide) | exact sw_ne c20 (by decide) | exact sw_ne c21 (by decide))) (by decide) ?_
      exact law_end (k := k) (n := n) (by omega) (by omega) hi5 hX hM (P_idle j _ _ _ _ _ _ _ _ _ _ hI) (ih := ih)
