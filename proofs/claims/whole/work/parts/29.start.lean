/-! THE CLAIM OUT OF ONE WALK OF THE LAW'S BODY. Your part is whole_start (and what it stands on); all else here is the same for every law, but numbers. -/
def R_law : String := "LagSolverLaw"
def lw_P (b : Addr) (xs : List Int32) (args : Array Value) (s : State) : Prop := args = #[.ref b] ∧ s.IntsAt b xs ∧ xs.length ≤ 2560 ∧ (Jvm.Cond.and given_1 narrow_1).before args s = true
def lw_Q (_ : Array Value) (s : State) (o : Outcome) (t : State) : Prop := o = .returned (some (.int 1)) ∧ Framed s o t [] 146680 8662210
def lw_Z (below : List Frame) (a : Array Value) (s : State) : State → Prop := fun t => ∃ o, t.status = .running ∧ Ended t below o ∧ lw_Q a s o t
/-- the law's own end, with 1 on the stack, nothing written that was there before, its room as the claim has it -/
theorem lw_ret {p : Program} {l : Launch} {e : Env} {s : State} {m : MethodId} {below : List Frame} {meth : Method} {c : Code} {b : Nat} (hx : p.tables.exec = Jvm.exec) (hb : c.code = code) (hr : meth.sig.returnType = ret) (hlocks : meth.locks = false) {pc : Nat} {H : Heap} {ls : Array Slot} (hdg : decode code pc = .ok (.ireturn, 1)) : W p l e room_1 s m #[Value.ref b] below meth c H [] 146680 8662210 (lw_Z below #[Value.ref b] s) (F0 m pc ls [.int 1]) := by
  intro T hT X
  obtain ⟨fs, hret, hrun, hended, hW, hframe⟩ := X.leave (v := some (.int 1)) (hlocks := hlocks) (fun h => by rw [hr] at h; cases h)
  have hmeth' : T.vm.method? m = some meth := X.method'
  refine ⟨T.setFrames fs, ?_, .returned (some (.int 1)), hrun, hended, rfl, ⟨_, rfl⟩, hW, hframe⟩
  jvm_step X.here [X.here.top, hx, hb, hdg, hmeth', hr, ret, narrow_b1]
  (try refine ⟨rfl, ?_⟩); (try refine ⟨rfl, ?_⟩)
  first | (intro acts; rw [hret _ acts rfl rfl rfl]) | rw [hret _ _ rfl rfl rfl]
  exact Steps.refl _
/-- what holds at the law's entry: the machine, the code, the tables' words (any of lw_tbl by 'hts w (by decide +kernel)'), the script of L ints xs at the cell b, what the Statement gives of the start (any of its parts by flat_of_before) -/
def lw_At (p : Program) (s : State) (m : MethodId) (meth : Method) (c : Code) (b L : Nat) (xs : Nat → Int32) : Prop :=
  p.tables.exec = Jvm.exec ∧ c.code = code ∧ meth.sig.returnType = ret ∧ c.maxLocals = 4 ∧ s.vm.findClass R_law = some m.cls ∧ (∀ w ∈ lw_tbl, w.before #[Value.ref b] s = true) ∧ va_X b L xs s s.heap ∧ b < s.heap.size ∧ meth.locks = false ∧ (Jvm.Cond.and given_1 narrow_1).before #[Value.ref b] s = true
def s0T : RT := (fun _ _ => 0, fun _ _ => 0, fun _ => 0)
def cells9 (x : Nat) : List Cel := [cO 9 [.ref (x + 1), .ref (x + 4), .ref (x + 23), .ref (x + 25), .null, .ref (x + 26)], cO 8 [.ref ((x + 1) + 1), .int 0, .int 0, .ref ((x + 1) + 2), .int 0, .int 0], cI 80 (fun _ => 0), cI 80 (fun _ => 0), cO 6 [.ref ((x + 4) + 1), .ref ((x + 4) + 5), .ref ((x + 4) + 8), .ref ((x + 4) + 12), .ref ((x + 4) + 13), .ref ((x + 4) + 17)], cO 5 [.ref (((x + 4) + 1) + 1), .ref (((x + 4) + 1) + 2), .ref (((x + 4) + 1) + 3)], cI 240 (fun _ => 0), cI 3 (fun _ => 0), cI 3 (fun _ => 0), cO 3 [.ref (((x + 4) + 5) + 1), .ref (((x + 4) + 5) + 2)], cI 3 (fun _ => 0), cI 3 (fun _ => 0), cO 1 [.ref (((x + 4) + 8) + 1), .ref (((x + 4) + 8) + 2), .ref (((x + 4) + 8) + 3)], cI 3 (fun _ => 0), cI 18 (fun _ => 0), cI 18 (fun _ => 0), cI 3 (upd (upd (upd (fun _ => 0) ((0 : Int32)).toNatClampNeg (100 : Int32)) ((1 : Int32)).toNatClampNeg (1 : Int32)) ((2 : Int32)).toNatClampNeg (2 : Int32)), cO 0 [.ref (((x + 4) + 13) + 1), .ref (((x + 4) + 13) + 2), .ref (((x + 4) + 13) + 3), .int (1 : Int32)], cI 40 (fun _ => 0), cI 40 (fun _ => 0), cI 40 (fun _ => 0), cO 4 [.ref (((x + 4) + 17) + 1), .int 0], cI 7688 (fun _ => 0), cO 2 [.ref ((x + 23) + 1), .int 0], cR 4 (fun _ => none), cR 2 (fun _ => none), cO 7 [.ref ((x + 26) + 1), .ref ((x + 26) + 2), .ref ((x + 26) + 3), .ref ((x + 26) + 4), .ref ((x + 26) + 5), .ref ((x + 26) + 6)], cI 22 (fun _ => 0), cI 80 (fun _ => 0), cI 3 (fun _ => 0), cI 3 (fun _ => 0), cI 3 (fun _ => 0), cI 3 (fun _ => 0)]
theorem has_ex {w : HW} {a b j n : Nat} {cl : List Cel} {g : Nat → Cel} (hb : a + j = b) (h : ∀ k, k < n → cl[j + k]? = some (g k)) : Has (ex w a cl) b n g := by
  intro k hk
  subst hb
  rw [Nat.add_assoc]
  exact ex_at (h k hk)
theorem has_next {w : HW} {z b n : Nat} {g : Nat → Cel} (h : Has w b n g) : Has ((w.1, z) : HW) b n g := h
set_option maxRecDepth 4000 in
theorem XW_init {w : HW} {x : Nat} {g : Nat → Cel} {kr sr : Nat → RT} : XW (put ((ex w x (cells9 x)).1, x + 33 + 22) (x + 33) 22 g) x s0T s0S s0S s0T 0 (fun _ => none) kr (fun _ => none) sr := by
  have e : (put ((ex w x (cells9 x)).1, x + 33 + 22) (x + 33) 22 g).1 x = some (ob9 x .null) := put_out (by omega) (ex_at0 rfl)
  have et : trv (put ((ex w x (cells9 x)).1, x + 33 + 22) (x + 33) 22 g) x = .null := by unfold trv; rw [e]; rfl
  refine ⟨by rw [et]; exact e, has_out (by omega) (has_next (has_ex (j := 1) rfl (lt_s (lt_s (lt_s lt_0 rfl) rfl) rfl))), has_out (by omega) (has_next (has_ex (j := 4) rfl (lt_s (lt_s (lt_s (lt_s (lt_s (lt_s (lt_s (lt_s (lt_s (lt_s (lt_s (lt_s (lt_s (lt_s (lt_s (lt_s (lt_s (lt_s (lt_s lt_0 rfl) rfl) rfl) rfl) rfl) rfl) rfl) rfl) rfl) rfl) rfl) rfl) rfl) rfl) rfl) rfl) rfl) rfl) rfl))), Or.inl ⟨et, rfl⟩, has_out (by omega) (has_next (has_ex (j := 26) rfl (lt_s (lt_s (lt_s (lt_s (lt_s (lt_s (lt_s lt_0 rfl) rfl) rfl) rfl) rfl) rfl) rfl))), put_out (by omega) (ex_at (k := 23) rfl), put_out (by omega) (ex_at (k := 24) rfl), put_out (by omega) (ex_at (k := 25) rfl), (by unfold LZ; exact ⟨fun j b _ h => (by cases h), fun j b _ h => (by cases h), fun i j b c _ _ _ h => (by cases h), fun i j b c _ _ _ h => (by cases h), fun i j b c _ _ h => (by cases h)⟩), Nat.le_refl _⟩
set_option maxHeartbeats 4000000 in
set_option maxRecDepth 4000 in
theorem law_entry {G : GX} {l : Launch} {d x : Nat} {Inv : Nat → RT → RT → RT → RT → Int32 → (Nat → Option Nat) → (Nat → RT) → (Nat → Option Nat) → (Nat → RT) → RT → Prop} (hd : 70 ≤ d) (hN : gN G ≤ 2560) {kr sr : Nat → RT} (hP : wp_X10_initR s0M (fun z => Inv 0 s0T s0S s0S s0T 0 (fun _ => none) kr (fun _ => none) sr z)) (P_idle : PT_idle Inv) (P_type : PT_type Inv) (P_wipe : PT_wipe Inv) (P_fault : PT_fault Inv) (P_right : PT_right Inv) (P_delay : PT_delay Inv) (P_point : PT_point Inv) (P_clear : PT_clear Inv) (P_set : PT_set Inv) (P_lag : PT_lag Inv) (P_breakAt : PT_breakAt Inv) (P_solve : PT_solve Inv) (P_value : PT_value Inv) (P_slope : PT_slope Inv) (P_rightAt : PT_rightAt Inv) (P_step : PT_step Inv) (P_crossing : PT_crossing Inv) (P_greatest : PT_greatest Inv) (P_differs : PT_differs Inv) (P_count : PT_count Inv) (P_undo : PT_undo Inv) (P_save : PT_save Inv) (P_restore : PT_restore Inv) : X G l m_L_law d 146680 8662210 0 0 0 [(0, .ref (gb G))] [] (fun _ => none, x) (fun r9 _ => r9 = some (.int 1)) := by
  refine X.world (w2 := ex (fun _ => none, x) x []) (Prod.ext (funext fun q => by simp [ex]) rfl) ?_
  refine x_newE (w := (fun _ => none, x)) (a := x) (cl := []) (cl2 := [cO 9 [.null, .null, .null, .null, .null, .null]]) x [.null, .null, .null, .null, .null, .null] rfl rfl cl_L_7 (lt_s (lt_s (lt_s (lt_s (lt_s (lt_s lt_0 rfl) rfl) rfl) rfl) rfl) rfl) (Nat.le_of_ble_eq_true rfl) (Nat.le_of_ble_eq_true rfl) d_L_law_0 ?_
  refine x_dup d_L_law_3 rfl ?_
  refine X.world (w2 := ex (fun _ => none, x) x [cO 9 [.null, .null, .null, .null, .null, .null]]) rfl ?_
  refine x_invI (rest := [.ref x]) (d' := d - 1) (mc' := 32) (ms' := 8416) x [] k_X9_init lk_L_9 rfl rfl (Nat.le_of_ble_eq_true rfl) (by omega) (Nat.le_of_ble_eq_true rfl) (Nat.le_of_ble_eq_true rfl) d_L_law_4 ((spc_X9_init (d := d - 1) (by omega)).mono (fun r w2 hr => ?_))
  obtain ⟨rfl, rfl⟩ := hr
  refine x_astore_n (lv2 := [(1, .ref x), (0, .ref (gb G))]) d_L_law_7 rfl (by decide) rfl ?_
  refine X.world (w2 := ex (fun _ => none, x) x (cells9 x)) rfl ?_
  refine x_newE (cl2 := cells9 x ++ [cO 10 [.null, .null, .int 0, .null, .null, .null, .int 0, .null, .null, .null, .int 0, .null, .null, .null, .null, .null, .null, .int 0, .int 0, .int 0, .int 0, .int 0, .null, .null, .null, .null, .null, .null, .null, .int 0, .int 0]]) (x + 33) [.null, .null, .int 0, .null, .null, .null, .int 0, .null, .null, .null, .int 0, .null, .null, .null, .null, .null, .null, .int 0, .int 0, .int 0, .int 0, .int 0, .null, .null, .null, .null, .null, .null, .null, .int 0, .int 0] rfl rfl cl_L_10 (lt_s (lt_s (lt_s (lt_s (lt_s (lt_s (lt_s (lt_s (lt_s (lt_s (lt_s (lt_s (lt_s (lt_s (lt_s (lt_s (lt_s (lt_s (lt_s (lt_s (lt_s (lt_s (lt_s (lt_s (lt_s (lt_s (lt_s (lt_s (lt_s (lt_s (lt_s lt_0 rfl) rfl) rfl) rfl) rfl) rfl) rfl) rfl) rfl) rfl) rfl) rfl) rfl) rfl) rfl) rfl) rfl) rfl) rfl) rfl) rfl) rfl) rfl) rfl) rfl) rfl) rfl) rfl) rfl) rfl) rfl) (Nat.le_of_ble_eq_true rfl) (Nat.le_of_ble_eq_true rfl) d_L_law_8 ?_
  refine x_dup d_L_law_11 rfl ?_
  refine X.world (w2 := ex (ex (fun _ => none, x) x (cells9 x)) (x + 33) [cO 10 [.null, .null, .int 0, .null, .null, .null, .int 0, .null, .null, .null, .int 0, .null, .null, .null, .null, .null, .null, .int 0, .int 0, .int 0, .int 0, .int 0, .null, .null, .null, .null, .null, .null, .null, .int 0, .int 0]]) (ex_split rfl rfl) ?_
  refine x_invI (rest := [.ref (x + 33)]) (d' := d - 1) (mc' := 21) (ms' := 19413) (x + 33) [] k_X10_init lk_L_12 rfl rfl (Nat.le_of_ble_eq_true rfl) (by omega) (Nat.le_of_ble_eq_true rfl) (Nat.le_of_ble_eq_true rfl) d_L_law_12 ((spc_X10_init (d := d - 1) (by omega) hP).mono (fun r w2 hr => ?_))
  obtain ⟨z0, rfl, rfl, hI⟩ := hr
  refine x_astore_n (lv2 := [(2, .ref (x + 33)), (1, .ref x), (0, .ref (gb G))]) d_L_law_15 rfl (by decide) rfl ?_
  refine x_iconst (v := nI 0) d_L_law_16 (by decide) ?_
  refine x_istore_n (lv2 := [(3, .int (nI 0)), (2, .ref (x + 33)), (1, .ref x), (0, .ref (gb G))]) d_L_law_17 rfl (by decide) rfl ?_
  refine x_sub [3, 2, 1, 0] (lv2 := [(0, .ref (gb G)), (1, .ref x), (2, .ref (x + 33)), (3, .int (nI 0))]) rfl ?_
  exact law_loop (Inv := Inv) (by omega) hN P_idle P_type P_wipe P_fault P_right P_delay P_point P_clear P_set P_lag P_breakAt P_solve P_value P_slope P_rightAt P_step P_crossing P_greatest P_differs P_count P_undo P_save P_restore 520 0 0 _ _ _ _ _ _ _ _ _ _ _ _ _ (by omega) (Nat.zero_le _) (Nat.le_of_ble_eq_true rfl) (Nat.le_of_ble_eq_true rfl) XW_init has_self rfl hI
set_option maxHeartbeats 8000000 in
set_option maxRecDepth 20000 in
theorem start_open {Inv : Nat → RT → RT → RT → RT → Int32 → (Nat → Option Nat) → (Nat → RT) → (Nat → Option Nat) → (Nat → RT) → RT → Prop} {kr sr : Nat → RT} (hP : wp_X10_initR s0M (fun z => Inv 0 s0T s0S s0S s0T 0 (fun _ => none) kr (fun _ => none) sr z)) (P_idle : PT_idle Inv) (P_type : PT_type Inv) (P_wipe : PT_wipe Inv) (P_fault : PT_fault Inv) (P_right : PT_right Inv) (P_delay : PT_delay Inv) (P_point : PT_point Inv) (P_clear : PT_clear Inv) (P_set : PT_set Inv) (P_lag : PT_lag Inv) (P_breakAt : PT_breakAt Inv) (P_solve : PT_solve Inv) (P_value : PT_value Inv) (P_slope : PT_slope Inv) (P_rightAt : PT_rightAt Inv) (P_step : PT_step Inv) (P_crossing : PT_crossing Inv) (P_greatest : PT_greatest Inv) (P_differs : PT_differs Inv) (P_count : PT_count Inv) (P_undo : PT_undo Inv) (P_save : PT_save Inv) (P_restore : PT_restore Inv) {p : Program} {e : Env} {s : State} {m : MethodId} {below : List Frame} {meth : Method} {c : Code} (l : Launch) {b L : Nat} {xs : Nat → Int32} (hL : L ≤ 2560) (C0 : lw_At p s m meth c b L xs) : W p l e room_1 s m #[Value.ref b] below meth c s.heap [] 0 0 (lw_Z below #[Value.ref b] s) (entryFrame m ([Value.ref b] : List Value).toArray 4) := by
  obtain ⟨hx, hb, hr, hml, hown, hts0, hX, hbl, hlocks, hgv⟩ := id C0
  have hts : ∀ w ∈ tG, w.before #[Value.ref b] s = true := fun w hw => hts0 w (List.mem_filter.mp hw).1
  have hnw : ∀ w ∈ nG, va_Nw w s := fun w hw => va_Nw.of (by have hb := (List.mem_filter.mp hw).2; cases w <;> first | (simp [isNest] at hb; done) | rfl) (hts0 w (List.mem_filter.mp hw).1)
  obtain ⟨c0, i0, hk0⟩ := u_known (C := RX0) (T := TX0) (N := 4) (n := 4) hts cls_X0.2.1 (hts (.instantiable RX0 4) (mem_t1 108 rfl rfl))
  obtain ⟨c1, i1, hk1⟩ := u_known (C := RX1) (T := TX1) (N := 3) (n := 3) hts cls_X1.2.1 (hts (.instantiable RX1 3) (mem_t1 91 rfl rfl))
  obtain ⟨c2, i2, hk2⟩ := u_known (C := RX2) (T := TX2) (N := 2) (n := 2) hts cls_X2.2.1 (hts (.instantiable RX2 2) (mem_t1 175 rfl rfl))
  obtain ⟨c3, i3, hk3⟩ := u_known (C := RX3) (T := TX3) (N := 2) (n := 2) hts cls_X3.2.1 (hts (.instantiable RX3 2) (mem_t1 76 rfl rfl))
  obtain ⟨c4, i4, hk4⟩ := u_known (C := RX4) (T := TX4) (N := 2) (n := 2) hts cls_X4.2.1 (hts (.instantiable RX4 2) (mem_t1 131 rfl rfl))
  obtain ⟨c5, i5, hk5⟩ := u_known (C := RX5) (T := TX5) (N := 3) (n := 3) hts cls_X5.2.1 (hts (.instantiable RX5 3) (mem_t1 59 rfl rfl))
  obtain ⟨c6, i6, hk6⟩ := u_known (C := RX6) (T := TX6) (N := 6) (n := 6) hts cls_X6.2.1 (hts (.instantiable RX6 6) (mem_t1 53 rfl rfl))
  obtain ⟨c7, i7, hk7⟩ := u_known (C := RX7) (T := TX7) (N := 6) (n := 6) hts cls_X7.2.1 (hts (.instantiable RX7 6) (mem_t1 191 rfl rfl))
  obtain ⟨c8, i8, hk8⟩ := u_known (C := RX8) (T := TX8) (N := 6) (n := 6) hts cls_X8.2.1 (hts (.instantiable RX8 6) (mem_t1 23 rfl rfl))
  obtain ⟨c9, i9, hk9⟩ := u_known (C := RX9) (T := TX9) (N := 6) (n := 6) hts cls_X9.2.1 (hts (.instantiable RX9 6) (mem_t1 15 rfl rfl))
  obtain ⟨c10, i10, hk10⟩ := u_known (C := RX10) (T := TX10) (N := 31) (n := 31) hts cls_X10.2.1 (hts (.instantiable RX10 31) (mem_t3 235 rfl rfl))
  obtain ⟨D, hKc⟩ : ∃ D : va_G, ∀ (k : Nat) (q : vw_C), clX[k]? = some q → u_Kn s q.1 q.2.1 q.2.2 (D.1 k) (D.2 k) := by
    refine ⟨(fun k => if k = 0 then c0 else if k = 1 then c1 else if k = 2 then c2 else if k = 3 then c3 else if k = 4 then c4 else if k = 5 then c5 else if k = 6 then c6 else if k = 7 then c7 else if k = 8 then c8 else if k = 9 then c9 else c10, fun k => if k = 0 then i0 else if k = 1 then i1 else if k = 2 then i2 else if k = 3 then i3 else if k = 4 then i4 else if k = 5 then i5 else if k = 6 then i6 else if k = 7 then i7 else if k = 8 then i8 else if k = 9 then i9 else i10), ?_⟩
    intro k q hq
    match k, hq with
    | 0, hq => cases hq; exact hk0
    | 1, hq => cases hq; exact hk1
    | 2, hq => cases hq; exact hk2
    | 3, hq => cases hq; exact hk3
    | 4, hq => cases hq; exact hk4
    | 5, hq => cases hq; exact hk5
    | 6, hq => cases hq; exact hk6
    | 7, hq => cases hq; exact hk7
    | 8, hq => cases hq; exact hk8
    | 9, hq => cases hq; exact hk9
    | 10, hq => cases hq; exact hk10
    | k + 11, hq => simp [clX] at hq
  obtain ⟨cA, kA, compA, hA1, hA2, hA3⟩ := Cond.arrayClass_spec (hts _ aw_I)
  obtain ⟨cJ, kJ, compJ, hJ1, hJ2, hJ3⟩ := Cond.arrayClass_spec (hts _ aw_J)
  have hao : va_AO "LagSolver$State" s := va_AO.of (hts0 _ (in_t1 (List.mem_of_getElem? (i := 181) rfl)))
  obtain ⟨compS, cS, kS, hS1, -, hS2, hS3, hS4⟩ := Cond.arrayOver_spec (va_AO.use (A := #[Value.ref b]) hao)
  have hs := flat_of_before _ hgv
  have hAll : ∀ a : Nat, a < s.heap.size → ¬ (fun q : Nat => s.heap.size ≤ q) a := fun a h => Nat.not_le.mpr h
  obtain ⟨tLEAST, hvLEAST, hTLEAST⟩ := va_Tof (s := s) (args := #[Value.ref b]) (tm := .static "LagSolver" "SETTING_LEAST" "[I") (ty := .int) (N := 3) (f := fLeast) (A := fun q : Nat => s.heap.size ≤ q) (by decide) (hs _ (by decide +kernel)) (va_eqt (z := 3) (hs _ (by decide +kernel))) (fun j hj => by
    match j, hj with
    | 0, _ => exact va_eqt (z := 20) (hs _ (by decide +kernel))
    | 1, _ => exact va_eqt (z := 0) (hs _ (by decide +kernel))
    | 2, _ => exact va_eqt (z := 0) (hs _ (by decide +kernel))
    ) hAll
  have hZLEAST := va_Zof (A := fun q : Nat => s.heap.size ≤ q) (hts0 _ (in_t3 (List.mem_of_getElem? (i := 21) rfl))) (hts0 _ (in_t1 (List.mem_of_getElem? (i := 1) rfl))) hvLEAST hAll
  obtain ⟨tMOST, hvMOST, hTMOST⟩ := va_Tof (s := s) (args := #[Value.ref b]) (tm := .static "LagSolver" "SETTING_MOST" "[I") (ty := .int) (N := 3) (f := fMost) (A := fun q : Nat => s.heap.size ≤ q) (by decide) (hs _ (by decide +kernel)) (va_eqt (z := 3) (hs _ (by decide +kernel))) (fun j hj => by
    match j, hj with
    | 0, _ => exact va_eqt (z := 500) (hs _ (by decide +kernel))
    | 1, _ => exact va_eqt (z := 4) (hs _ (by decide +kernel))
    | 2, _ => exact va_eqt (z := 3) (hs _ (by decide +kernel))
    ) hAll
  have hZMOST := va_Zof (A := fun q : Nat => s.heap.size ≤ q) (hts0 _ (in_t3 (List.mem_of_getElem? (i := 23) rfl))) (hts0 _ (in_t1 (List.mem_of_getElem? (i := 1) rfl))) hvMOST hAll
  have hK : va_K D clX [(cA, .int), (cJ, .long), (cS, .object "LagSolver$State")] s := by
    refine ⟨hKc, fun k q hq => ?_⟩
    match k, hq with
    | 0, hq => cases hq; exact ⟨fun n z => ⟨fun k h => (by cases h), kA, hA2, compA, hA3⟩, hA1⟩
    | 1, hq => cases hq; exact ⟨fun n z => ⟨fun k h => (by cases h), kJ, hJ2, compJ, hJ3⟩, hJ1⟩
    | 2, hq => cases hq; exact ⟨fun n z => ⟨fun k h => (by cases h), kS, hS2, compS, hS3⟩, kS, compS, hS2, hS3, hS1, hS4⟩
    | k + 3, hq => simp at hq
  let G : GX := (D, (cA, cJ, cS), s.heap, (tLEAST, tMOST), (b, L, xs))
  have hAmb : AmbU G s := ⟨hK, hnw, hZLEAST, hZMOST, hTLEAST, hTMOST, hX, hbl, hao⟩
  have hl := lv_entry ([.ref b]) (n := 4) (Nat.le_of_ble_eq_true rfl)
  rw [lg_entry_eq]
  generalize (lg_sl ([.ref b]) ++ List.replicate (4 - (lg_sl ([.ref b])).length) Slot.unset).toArray = ls at hl ⊢
  refine law_entry (G := G) (l := l) (d := 2000) (x := s.heap.size) (Inv := Inv) (by decide) hL hP P_idle P_type P_wipe P_fault P_right P_delay P_point P_clear P_set P_lag P_breakAt P_solve P_value P_slope P_rightAt P_step P_crossing P_greatest P_differs P_count P_undo P_save P_restore p e room_1 s m #[Value.ref b] below meth c (lw_Z below #[Value.ref b] s) s.heap [] ls ⟨hx, hb, hml, hown, hts, (fun h => absurd h (by decide)), hAmb, (Nat.le_of_ble_eq_true rfl), (Nat.le_of_ble_eq_true rfl), (Nat.le_of_ble_eq_true rfl), (Nat.le_of_ble_eq_true rfl)⟩ ?_ ⟨rfl, Nat.le_refl _, (fun a c h => by cases h), fun q _ => rfl⟩ (fun q hq => by cases hq) hl (Nat.zero_le _) (Nat.zero_le _)
  intro r w H locs k n pc ls hQ hR hLoc hk hn hret
  subst hQ
  refine va_forget (fun q hq => hLoc q hq) ?_
  refine W.widen (k := 146680) (n := 8662210) hk hn ?_
  exact lw_ret hx hb hr hlocks hret.1
