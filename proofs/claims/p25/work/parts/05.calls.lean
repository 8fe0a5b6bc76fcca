/-! calls in the layer -/
def MOk (M : MD) (z : Nat) : Prop := plainName M.1.cls = true ∧ Cond.code M.1 M.2.1 M.2.2.1 M.2.2.2 ∈ tG ∧ Cond.initialized M.1.cls ∈ tG ∧ (M.1.cls ≠ "java/lang/invoke/MethodHandle" ∧ M.1.cls ≠ "java/lang/invoke/VarHandle" ∧ (parseMethodDescriptor M.1.desc).map (fun d => d.parameters.length) = some z) ∧ M.2.2.1 ≤ 21
def MOkS (M : MD) (z : Nat) : Prop := MOk M z ∧ Cond.static M.1 ∈ tG
def MOkV (M : MD) (z : Nat) : Prop := MOk M z ∧ Cond.instanceMethod M.1 ∈ tG ∧ Cond.selects M.1.cls M.1 M.1 ∈ tG
def MOkI (M : MD) (z : Nat) : Prop := MOk M z ∧ Cond.instanceMethod M.1 ∈ tG ∧ M.1.name = "<init>" ∧ M.2.2.2 = none
theorem goodIn_M {M : MD} (h : Cond.code M.1 M.2.1 M.2.2.1 M.2.2.2 ∈ tG) : GoodIn tG (Cond.code M.1 M.2.1 M.2.2.1 M.2.2.2 :: tG) := by
  intro w hw
  rcases List.mem_cons.mp hw with rfl | hw
  · exact ⟨h, tG_good h⟩
  · exact ⟨hw, tG_good hw⟩
section
variable {G : GX} {l : Launch} {M M' : MD} {d d' mc ms k n mc' ms' pc z idx : Nat} {lv : List (Nat × Value)} {st rest : List Value} {w : HW} {Q : Option Value → HW → Prop}
theorem w_call {p : Program} {e : Env} {R : Room} {s : State} {m : MethodId} {args a : Array Value} {below : List Frame} {meth : Method} {c : Code} {Z : State → Prop} {H : Heap} {locs : List Loc} {ls : Array Slot} {Q' : Option Value → HW → Prop}
    (hr : CallRun p l e R s m args below meth c H locs k n mc' ms' (F0 m pc ls st) rest (QcX G Q' a) (gA G)) (hL : LocOK G locs)
    (kk : ∀ (r : Option Value) (w' : HW) (H1 : Heap) (locs1 : List Loc), Q' r w' → Rel G w' H1 → LocOK G locs1 → W p l e R s m args below meth c H1 locs1 (k + mc') (n + ms') Z (F0 m (pc + 3) ls (pushR r rest))) : W p l e R s m args below meth c H locs k n Z (F0 m pc ls st) := by
  intro T hT X
  obtain ⟨v, st₀, t, T', L, h0, X', hLL, e1, ⟨r, w', hv, hq, hR⟩, stp⟩ := hr T hT X
  cases hv
  obtain ⟨t2, a1, b1⟩ := kk v w' T'.heap (locs ++ L) hq (by rw [e1]; exact hR) (hL.apps hLL) T' rfl X'
  refine ⟨t2, stp t2 ?_, b1⟩
  have : pushR v rest = v.toList ++ rest := by cases v <;> rfl
  rw [← this]
  exact a1
theorem CallRun.of {p : Program} {e : Env} {R : Room} {s : State} {m : MethodId} {args : Array Value} {below : List Frame} {meth : Method} {c : Code} {H : Heap} {locs : List Loc} {cells slots mc ms : Nat} {g : JFrame} {Qa : State → Outcome → State → Prop} {free : Addr → Prop} (h : va_Run p l e R s m args below meth c H locs cells slots mc ms g rest Qa free) : CallRun p l e R s m args below meth c H locs cells slots mc ms g rest Qa free := by
  intro T hT X
  obtain ⟨v, st₀, t, T', L, h0, X', hLL, e1, -, hq, stp⟩ := h T hT X
  exact ⟨v, st₀, t, T', L, h0, X', hLL, e1, hq, stp⟩
theorem room_ok {R : Room} (h1 : d ≤ R.frames) (h2 : 40 * d ≤ R.locals) (hd : d' + 1 ≤ d) (hm : M'.2.2.1 ≤ 21) : (rmX d' mc' ms').frames + 1 ≤ R.frames ∧ 8 + (M'.2.2.1 + 11) + (rmX d' mc' ms').locals ≤ R.locals := by
  refine ⟨Nat.le_trans hd h1, ?_⟩
  show 8 + (M'.2.2.1 + 11) + 40 * d' ≤ R.locals
  omega
theorem x_invS (As : List Value) (hM : MOkS M' z) (hlk : Cond.methodLink M.1.cls idx M'.1 ∈ tG) (hz : As.length = z) (hst : st = As.reverse ++ rest) (hrest : (rest.map fun v => v.category).sum ≤ 8) (hd : d' + 1 ≤ d) (hkc : k + mc' ≤ mc) (hkn : n + ms' ≤ ms) (hdg : decode M.2.1 pc = .ok (.invokestatic idx, 3))
    (hS : Sp G l M' d' mc' ms' As w (fun r w' => X G l M d mc ms (k + mc') (n + ms') (pc + 3) lv (pushR r rest) w' Q)) : X G l M d mc ms k n pc lv st w Q := by
  intro p e R s m args below meth c Z H locs ls A E hR hL hl hk hn
  obtain ⟨⟨-, hcd, hin, hnm, hml⟩, hstat⟩ := hM
  have hts := A.2.2.2.2.1
  have hG := goodIn_M hcd
  refine w_call (CallRun.of (va_runS ⟨A.1, A.2.1, A.2.2.1, A.2.2.2.1, hts⟩ hS ⟨callB_of z hts hG rfl rfl rfl (hts _ hin) (hts _ hlk) hnm (room_ok A.2.2.2.2.2.2.2.1 A.2.2.2.2.2.2.2.2.1 hd hml), hts _ hstat⟩ ⟨PcX.blind, fun U hU hW => ⟨rfl, by rw [hU]; exact hR, A.2.2.2.2.2.2.1.moved hW⟩⟩ rfl hz hl.1 hst (by show 2 * 0 + _ ≤ 8; omega) hdg ⟨Nat.le_trans hkc A.2.2.2.2.2.2.2.2.2.1, Nat.le_trans hkn A.2.2.2.2.2.2.2.2.2.2⟩)) hL ?_
  intro r w' H1 locs1 hq hR1 hL1
  exact hq p e R s m args below meth c Z H1 locs1 ls A E hR1 hL1 hl hkc hkn
theorem x_invSN (As : List Value) (host : String) (hM : MOkS M' z) (hlk : Cond.methodLinkNest M.1.cls idx M'.1 host ∈ nG) (hz : As.length = z) (hst : st = As.reverse ++ rest) (hrest : (rest.map fun v => v.category).sum ≤ 8) (hd : d' + 1 ≤ d) (hkc : k + mc' ≤ mc) (hkn : n + ms' ≤ ms) (hdg : decode M.2.1 pc = .ok (.invokestatic idx, 3))
    (hS : Sp G l M' d' mc' ms' As w (fun r w' => X G l M d mc ms (k + mc') (n + ms') (pc + 3) lv (pushR r rest) w' Q)) : X G l M d mc ms k n pc lv st w Q := by
  intro p e R s m args below meth c Z H locs ls A E hR hL hl hk hn
  obtain ⟨⟨-, hcd, hin, hnm, hml⟩, hstat⟩ := hM
  have hts := A.2.2.2.2.1
  have hG := goodIn_M hcd
  refine w_call (CallRun.of (va_runSN ⟨A.1, A.2.1, A.2.2.1, A.2.2.2.1, hts⟩ hS ⟨va_cnB z hts hG rfl rfl rfl (A.2.2.2.2.2.2.1.2.1 _ hlk) (hts _ hin) hnm (room_ok A.2.2.2.2.2.2.2.1 A.2.2.2.2.2.2.2.2.1 hd hml), hts _ hstat, trivial⟩ ⟨PcX.blind, fun U hU hW => ⟨rfl, by rw [hU]; exact hR, A.2.2.2.2.2.2.1.moved hW⟩⟩ rfl hz hl.1 hst (by show 2 * 0 + _ ≤ 8; omega) hdg ⟨Nat.le_trans hkc A.2.2.2.2.2.2.2.2.2.1, Nat.le_trans hkn A.2.2.2.2.2.2.2.2.2.2⟩)) hL ?_
  intro r w' H1 locs1 hq hR1 hL1
  exact hq p e R s m args below meth c Z H1 locs1 ls A E hR1 hL1 hl hkc hkn
theorem x_invV {o ci N : Nat} {T : u_T} {fs : List Value} (As : List Value) (hM : MOkV M' z) (hlk : Cond.methodLink M.1.cls idx M'.1 ∈ tG) (ho : w.1 o = some (cO ci fs)) (hci : clX[ci]? = some (M'.1.cls, T, N)) (hz : As.length = z) (hst : st = As.reverse ++ .ref o :: rest) (hrest : (rest.map fun v => v.category).sum ≤ 8) (hd : d' + 1 ≤ d) (hkc : k + mc' ≤ mc) (hkn : n + ms' ≤ ms) (hdg : decode M.2.1 pc = .ok (.invokevirtual idx, 3))
    (hS : Sp G l M' d' mc' ms' (.ref o :: As) w (fun r w' => X G l M d mc ms (k + mc') (n + ms') (pc + 3) lv (pushR r rest) w' Q)) : X G l M d mc ms k n pc lv st w Q := by
  intro p e R s m args below meth c Z H locs ls A E hR hL hl hk hn
  obtain ⟨⟨-, hcd, hin, hnm, hml⟩, hinst, hsel⟩ := hM
  have hts := A.2.2.2.2.1
  have hG := goodIn_M hcd
  refine w_call (CallRun.of (va_runV ⟨A.1, A.2.1, A.2.2.1, A.2.2.2.1, hts⟩ hS ⟨callB_of z hts hG rfl rfl rfl (hts _ hin) (hts _ hlk) hnm (room_ok A.2.2.2.2.2.2.2.1 A.2.2.2.2.2.2.2.2.1 hd hml), hts _ hinst, hts _ hsel⟩ ⟨PcX.blind, va_recv A.2.2.2.2.2.2.1.1 (hR.at ho) hci (q0 := 0) rfl, fun U hU hW => ⟨rfl, by rw [hU]; exact hR, A.2.2.2.2.2.2.1.moved hW⟩⟩ rfl hz hl.1 hst (by show 2 * 0 + _ ≤ 8; omega) hdg ⟨Nat.le_trans hkc A.2.2.2.2.2.2.2.2.2.1, Nat.le_trans hkn A.2.2.2.2.2.2.2.2.2.2⟩)) hL ?_
  intro r w' H1 locs1 hq hR1 hL1
  exact hq p e R s m args below meth c Z H1 locs1 ls A E hR1 hL1 hl hkc hkn
theorem x_invI (o : Nat) (As : List Value) (hM : MOkI M' z) (hlk : Cond.methodLink M.1.cls idx M'.1 ∈ tG) (hz : As.length = z) (hst : st = As.reverse ++ .ref o :: rest) (hrest : (rest.map fun v => v.category).sum ≤ 8) (hd : d' + 1 ≤ d) (hkc : k + mc' ≤ mc) (hkn : n + ms' ≤ ms) (hdg : decode M.2.1 pc = .ok (.invokespecial idx, 3))
    (hS : Sp G l M' d' mc' ms' (.ref o :: As) w (fun r w' => X G l M d mc ms (k + mc') (n + ms') (pc + 3) lv (pushR r rest) w' Q)) : X G l M d mc ms k n pc lv st w Q := by
  intro p e R s m args below meth c Z H locs ls A E hR hL hl hk hn
  obtain ⟨⟨-, hcd, hin, hnm, hml⟩, hinst, hnm1, hret⟩ := hM
  have hts := A.2.2.2.2.1
  have hG := goodIn_M hcd
  obtain ⟨y', cc', nL', ret'⟩ := M'
  dsimp only at hret
  subst hret
  refine w_call (CallRun.of (va_runI ⟨A.1, A.2.1, A.2.2.1, A.2.2.2.1, hts⟩ hS ⟨callB_of z hts hG rfl rfl rfl (hts _ hin) (hts _ hlk) hnm (room_ok (M' := (y', cc', nL', none)) A.2.2.2.2.2.2.2.1 A.2.2.2.2.2.2.2.2.1 hd hml), hnm1, hts _ hinst⟩ ⟨PcX.blind, fun U hU hW => ⟨rfl, by rw [hU]; exact hR, A.2.2.2.2.2.2.1.moved hW⟩⟩ rfl hz hl.1 hst (by show 2 * 0 + _ ≤ 8; omega) hdg ⟨Nat.le_trans hkc A.2.2.2.2.2.2.2.2.2.1, Nat.le_trans hkn A.2.2.2.2.2.2.2.2.2.2⟩)) hL ?_
  intro r w' H1 locs1 hq hR1 hL1
  exact hq p e R s m args below meth c Z H1 locs1 ls A E hR1 hL1 hl hkc hkn
theorem x_invIN (o : Nat) (As : List Value) (host : String) (hM : MOkI M' z) (hlk : Cond.methodLinkNest M.1.cls idx M'.1 host ∈ nG) (hz : As.length = z) (hst : st = As.reverse ++ .ref o :: rest) (hrest : (rest.map fun v => v.category).sum ≤ 8) (hd : d' + 1 ≤ d) (hkc : k + mc' ≤ mc) (hkn : n + ms' ≤ ms) (hdg : decode M.2.1 pc = .ok (.invokespecial idx, 3))
    (hS : Sp G l M' d' mc' ms' (.ref o :: As) w (fun r w' => X G l M d mc ms (k + mc') (n + ms') (pc + 3) lv (pushR r rest) w' Q)) : X G l M d mc ms k n pc lv st w Q := by
  intro p e R s m args below meth c Z H locs ls A E hR hL hl hk hn
  obtain ⟨⟨-, hcd, hin, hnm, hml⟩, hinst, hnm1, hret⟩ := hM
  have hts := A.2.2.2.2.1
  have hG := goodIn_M hcd
  obtain ⟨y', cc', nL', ret'⟩ := M'
  dsimp only at hret
  subst hret
  refine w_call (CallRun.of (va_runIN ⟨A.1, A.2.1, A.2.2.1, A.2.2.2.1, hts⟩ hS ⟨va_cnB z hts hG rfl rfl rfl (A.2.2.2.2.2.2.1.2.1 _ hlk) (hts _ hin) hnm (room_ok (M' := (y', cc', nL', none)) A.2.2.2.2.2.2.2.1 A.2.2.2.2.2.2.2.2.1 hd hml), hnm1, hts _ hinst⟩ ⟨PcX.blind, fun U hU hW => ⟨rfl, by rw [hU]; exact hR, A.2.2.2.2.2.2.1.moved hW⟩⟩ rfl hz hl.1 hst (by show 2 * 0 + _ ≤ 8; omega) hdg ⟨Nat.le_trans hkc A.2.2.2.2.2.2.2.2.2.1, Nat.le_trans hkn A.2.2.2.2.2.2.2.2.2.2⟩)) hL ?_
  intro r w' H1 locs1 hq hR1 hL1
  exact hq p e R s m args below meth c Z H1 locs1 ls A E hR1 hL1 hl hkc hkn
theorem x_mmax {x y : Int32} (h1 : Cond.methodLink M.1.cls idx Lib.Math.max.name ∈ tG) (h2 : Cond.static Lib.Math.max.name ∈ tG) (h3 : Cond.initialized "java/lang/Math" ∈ tG) (h4 : Cond.code Lib.Math.max.name Lib.Math.max.code 2 (some .int) ∈ tG) (hrest : (st.map fun v => v.category).sum ≤ 8) (hd : 1 ≤ d) (hdg : decode M.2.1 pc = .ok (.invokestatic idx, 3)) (kk : X G l M d mc ms k n (pc + 3) lv (.int (if x < y then y else x) :: st) w Q) : X G l M d mc ms k n pc lv (.int y :: .int x :: st) w Q := by
  intro p e R s m args below meth c Z H locs ls A E hR hL hl hk hn
  have hts := A.2.2.2.2.1
  have h40 := A.2.2.2.2.2.2.2.2.1
  exact va_mmax A.1 A.2.1 (A.2.2.1.trans hl.1.symm) A.2.2.2.1 (hts _ h1) (hts _ h2) (hts _ h3) (hts _ h4) (Nat.le_trans hd A.2.2.2.2.2.2.2.1) (by omega) (Nat.le_trans hk A.2.2.2.2.2.2.2.2.2.1) (Nat.le_trans hn A.2.2.2.2.2.2.2.2.2.2) hdg (kk p e R s m args below meth c Z H locs ls A E hR hL hl hk hn)
theorem x_mmin {x y : Int32} (h1 : Cond.methodLink M.1.cls idx Lib.Math.min.name ∈ tG) (h2 : Cond.static Lib.Math.min.name ∈ tG) (h3 : Cond.initialized "java/lang/Math" ∈ tG) (h4 : Cond.code Lib.Math.min.name Lib.Math.min.code 2 (some .int) ∈ tG) (hrest : (st.map fun v => v.category).sum ≤ 8) (hd : 1 ≤ d) (hdg : decode M.2.1 pc = .ok (.invokestatic idx, 3)) (kk : X G l M d mc ms k n (pc + 3) lv (.int (if y < x then y else x) :: st) w Q) : X G l M d mc ms k n pc lv (.int y :: .int x :: st) w Q := by
  intro p e R s m args below meth c Z H locs ls A E hR hL hl hk hn
  have hts := A.2.2.2.2.1
  have h40 := A.2.2.2.2.2.2.2.2.1
  exact va_mmin A.1 A.2.1 (A.2.2.1.trans hl.1.symm) A.2.2.2.1 (hts _ h1) (hts _ h2) (hts _ h3) (hts _ h4) (Nat.le_trans hd A.2.2.2.2.2.2.2.1) (by omega) (Nat.le_trans hk A.2.2.2.2.2.2.2.2.2.1) (Nat.le_trans hn A.2.2.2.2.2.2.2.2.2.2) hdg (kk p e R s m args below meth c Z H locs ls A E hR hL hl hk hn)
theorem x_mmaxL {x y : Int64} (h1 : Cond.methodLink M.1.cls idx Lib.MathLoose.max_long.x ∈ tG) (h2 : Cond.static Lib.MathLoose.max_long.x ∈ tG) (h3 : Cond.initialized "java/lang/Math" ∈ tG) (h4 : Cond.code Lib.MathLoose.max_long.x Lib.MathLoose.max_long.code 4 (some .long) ∈ tG) (hrest : (st.map fun v => v.category).sum ≤ 8) (hd : 1 ≤ d) (hdg : decode M.2.1 pc = .ok (.invokestatic idx, 3)) (kk : X G l M d mc ms k n (pc + 3) lv (.long (if y < x then x else y) :: st) w Q) : X G l M d mc ms k n pc lv (.long y :: .long x :: st) w Q := by
  intro p e R s m args below meth c Z H locs ls A E hR hL hl hk hn
  have hts := A.2.2.2.2.1
  have h40 := A.2.2.2.2.2.2.2.2.1
  exact va_mmax_long A.1 A.2.1 (A.2.2.1.trans hl.1.symm) A.2.2.2.1 (hts _ h1) (hts _ h2) (hts _ h3) (hts _ h4) (Nat.le_trans hd A.2.2.2.2.2.2.2.1) (by omega) (Nat.le_trans hk A.2.2.2.2.2.2.2.2.2.1) (Nat.le_trans hn A.2.2.2.2.2.2.2.2.2.2) hdg (kk p e R s m args below meth c Z H locs ls A E hR hL hl hk hn)
theorem x_mminL {x y : Int64} (h1 : Cond.methodLink M.1.cls idx Lib.MathLoose.min_long.x ∈ tG) (h2 : Cond.static Lib.MathLoose.min_long.x ∈ tG) (h3 : Cond.initialized "java/lang/Math" ∈ tG) (h4 : Cond.code Lib.MathLoose.min_long.x Lib.MathLoose.min_long.code 4 (some .long) ∈ tG) (hrest : (st.map fun v => v.category).sum ≤ 8) (hd : 1 ≤ d) (hdg : decode M.2.1 pc = .ok (.invokestatic idx, 3)) (kk : X G l M d mc ms k n (pc + 3) lv (.long (if y < x then y else x) :: st) w Q) : X G l M d mc ms k n pc lv (.long y :: .long x :: st) w Q := by
  intro p e R s m args below meth c Z H locs ls A E hR hL hl hk hn
  have hts := A.2.2.2.2.1
  have h40 := A.2.2.2.2.2.2.2.2.1
  exact va_mmin_long A.1 A.2.1 (A.2.2.1.trans hl.1.symm) A.2.2.2.1 (hts _ h1) (hts _ h2) (hts _ h3) (hts _ h4) (Nat.le_trans hd A.2.2.2.2.2.2.2.1) (by omega) (Nat.le_trans hk A.2.2.2.2.2.2.2.2.2.1) (Nat.le_trans hn A.2.2.2.2.2.2.2.2.2.2) hdg (kk p e R s m args below meth c Z H locs ls A E hR hL hl hk hn)
theorem x_mabsL {x : Int64} (h1 : Cond.methodLink M.1.cls idx Lib.MathLoose.abs_long.x ∈ tG) (h2 : Cond.static Lib.MathLoose.abs_long.x ∈ tG) (h3 : Cond.initialized "java/lang/Math" ∈ tG) (h4 : Cond.code Lib.MathLoose.abs_long.x Lib.MathLoose.abs_long.code 2 (some .long) ∈ tG) (hrest : (st.map fun v => v.category).sum ≤ 8) (hd : 1 ≤ d) (hdg : decode M.2.1 pc = .ok (.invokestatic idx, 3)) (kk : X G l M d mc ms k n (pc + 3) lv (.long (if 0 < x then x else -x) :: st) w Q) : X G l M d mc ms k n pc lv (.long x :: st) w Q := by
  intro p e R s m args below meth c Z H locs ls A E hR hL hl hk hn
  have hts := A.2.2.2.2.1
  have h40 := A.2.2.2.2.2.2.2.2.1
  exact va_mabs_long A.1 A.2.1 (A.2.2.1.trans hl.1.symm) A.2.2.2.1 (hts _ h1) (hts _ h2) (hts _ h3) (hts _ h4) (Nat.le_trans hd A.2.2.2.2.2.2.2.1) (by omega) (Nat.le_trans hk A.2.2.2.2.2.2.2.2.2.1) (Nat.le_trans hn A.2.2.2.2.2.2.2.2.2.2) hdg (kk p e R s m args below meth c Z H locs ls A E hR hL hl hk hn)
theorem x_copy {a0 a z0 z1 : Nat} {f g : Nat → Int32} {x : Int32} (h1 : Cond.methodLink M.1.cls idx arraycopyName ∈ tG) (h2 : Cond.native arraycopyName ∈ tG) (h3 : Cond.static arraycopyName ∈ tG) (h4 : Cond.initialized "java/lang/System" ∈ tG) (ha0 : w.1 a0 = some (cI z0 f)) (ha : w.1 a = some (cI z1 g)) (hx : ¬ x < 0) (hz0 : x.toNatClampNeg ≤ z0) (hz1 : x.toNatClampNeg ≤ z1) (hrest : st = []) (hd : 1 ≤ d) (hdg : decode M.2.1 pc = .ok (.invokestatic idx, 3)) (kk : X G l M d mc ms k n (pc + 3) lv st (hset w a (cI z1 (va_cpy f g 0 0 x.toNatClampNeg))) Q) : X G l M d mc ms k n pc lv (.int x :: .int 0 :: .ref a :: .int 0 :: .ref a0 :: st) w Q := by
  intro p e R s m args below meth c Z H locs ls A E hR hL hl hk hn
  have hts := A.2.2.2.2.1
  have h40 := A.2.2.2.2.2.2.2.2.1
  have hK := A.2.2.2.2.2.2.1.1
  have hga := (hR.2.2.1 _ _ ha).1
  have hc0 : H[a0]? = some (vp_cell (gI G) (z0, .inl f)) := hR.at ha0 0 _ rfl
  have hc1 : H[a]? = some (vp_cell (gI G) (z1, .inl g)) := hR.at ha 0 _ rfl
  obtain ⟨-, k0, hk0, cm0, hkk0⟩ := (hK.2 0 _ rfl).1 z0 (fun j => .int (f j))
  obtain ⟨-, k1, hk1, cm1, hkk1⟩ := (hK.2 0 _ rfl).1 z1 (fun j => .int (g j))
  have hxi : x.toInt = (x.toNatClampNeg : Int) := by
    have h0 : (0 : Int) ≤ x.toInt := by
      have := Int32.not_lt.mp hx
      simpa using Int32.le_iff_toInt_le.mp this
    show x.toInt = ((x.toInt.toNat : Nat) : Int)
    omega
  subst hrest
  have h9 : nativeFrameWords "java/lang/System" "arraycopy" 5 ≤ 29 := by decide
  intro T hT X
  obtain ⟨vm', X', step⟩ := X.arraycopy A.1 A.2.2.2.1 (hts _ h1) (hts _ h2) (hts _ h3) (hts _ h4) (src := a0) (dst := a) (cs := vp_cell (gI G) (z0, .inl f)) (cd := vp_cell (gI G) (z1, .inl g)) (srcPos := 0) (destPos := 0) (n := x) (by rw [hT]; exact hc0) (by rw [hT]; exact hc1)
    (fun _ h => by cases h) (fun _ h => by cases h) (fun h => by cases h) (fun h => by cases h) hk0 hk1 hkk0 hkk1 rfl (by decide) (by decide) hx
    (by rw [hxi]; show ¬ _ > ((arrV _ z0 (fun j => .int (f j))).slots.size : Int); rw [arrV_size]; simp; omega)
    (by rw [hxi]; show ¬ _ > ((arrV _ z1 (fun j => .int (g j))).slots.size : Int); rw [arrV_size]; simp; omega)
    (fun vm₁ _ i hi => by
      have e : (vp_cell (gI G) (z0, .inl f)).slots.getD ((0 : Int32).toNatClampNeg + i) .null = .int (f ((0 : Int32).toNatClampNeg + i)) := by
        show (arrV _ z0 (fun j => .int (f j))).slots.getD _ _ = _
        rw [Array.getD_eq_getD_getElem?, arrV_read _ _ (by have : (0 : Int32).toNatClampNeg = 0 := rfl; omega)]
        rfl
      exact ⟨by rw [e]; rfl, by rw [e]; exact trivial⟩)
    (g := F0 m pc ls (.int x :: .int 0 :: .ref a :: .int 0 :: .ref a0 :: [])) rfl (A.2.2.1.symm ▸ hl.1) (rest := []) rfl (by rw [A.2.1]; exact hdg) (Nat.le_trans hd A.2.2.2.2.2.2.2.1) (by show 2 * 0 + 0 + _ ≤ _; omega)
  have e1 : copied (vp_cell (gI G) (z0, .inl f)) (vp_cell (gI G) (z1, .inl g)) 0 0 x = vp_cell (gI G) (z1, .inl (va_cpy f g (0 : Int32).toNatClampNeg (0 : Int32).toNatClampNeg x.toNatClampNeg)) := va_copied (fun z => .int z) (gI G) (gI G) f g (by have : (0 : Int32).toNatClampNeg = 0 := rfl; omega)
  rw [e1] at X' step
  have hlt : a < H.size := (Array.getElem?_eq_some_iff.mp hc1).1
  generalize hc : vp_cell (gI G) (z1, .inl (va_cpy f g (0 : Int32).toNatClampNeg (0 : Int32).toNatClampNeg x.toNatClampNeg)) = cc' at X' step
  have hheap : ((T.setVm vm').setCell a cc').heap = H.setIfInBounds a cc' := by rw [← hT]; rfl
  obtain ⟨t, a1, b1⟩ := kk p e R s m args below meth c Z _ _ ls A E (hR.set ha (H1 := H.setIfInBounds a cc') (show (H.setIfInBounds a cc')[a]? = some _ by rw [← hc]; simp [Array.getElem?_setIfInBounds, hlt]) (by simp) (fun q hq => by simp [Array.getElem?_setIfInBounds, Ne.symm hq])) (hL.apps (fun q hq => by
      obtain ⟨z, -, hz⟩ := List.mem_map.mp hq
      rw [← hz]
      exact hga)) hl hk hn _ hheap X'
  exact ⟨t, step t a1, b1⟩
end
