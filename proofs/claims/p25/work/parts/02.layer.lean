/-! THE LAYER: a method's frame over a heap that is a function of addresses (HW); Sp: a method's contract, in the style of what comes behind it -/
abbrev MD : Type := MethodName × ByteArray × Nat × Option FieldType
abbrev Cel : Type := ((Nat × (Nat → Int32)) ⊕ (Nat × (Nat → Int64))) ⊕ ((Nat × (Nat → Option Nat)) ⊕ (Nat × List Value))
abbrev HW : Type := (Nat → Option Cel) × Nat
abbrev GX : Type := va_G × (ClassId × ClassId × ClassId) × Heap × (Nat × Nat) × (Nat × Nat × (Nat → Int32))
abbrev cI (n : Nat) (f : Nat → Int32) : Cel := .inl (.inl (n, f))
abbrev cL (n : Nat) (f : Nat → Int64) : Cel := .inl (.inr (n, f))
abbrev cR (n : Nat) (f : Nat → Option Nat) : Cel := .inr (.inl (n, f))
abbrev cO (ci : Nat) (fs : List Value) : Cel := .inr (.inr (ci, fs))
def gD (G : GX) : va_G := G.1
def gI (G : GX) : ClassId := G.2.1.1
def gJ (G : GX) : ClassId := G.2.1.2.1
def gS (G : GX) : ClassId := G.2.1.2.2
def gH (G : GX) : Heap := G.2.2.1
def gL (G : GX) : Nat := G.2.2.2.1.1
def gM (G : GX) : Nat := G.2.2.2.1.2
def gb (G : GX) : Nat := G.2.2.2.2.1
def gN (G : GX) : Nat := G.2.2.2.2.2.1
def gx (G : GX) : Nat → Int32 := G.2.2.2.2.2.2
def gA (G : GX) : Nat → Prop := fun q => (gH G).size ≤ q
def toE (G : GX) : Cel → va_E
  | .inl (.inl a) => .inl (gI G, a.1, .inl a.2)
  | .inl (.inr a) => .inl (gJ G, a.1, .inr (.inl a.2))
  | .inr (.inl a) => .inl (gS G, a.1, .inr (.inr (.inr (.inr a.2))))
  | .inr (.inr o) => .inr o
def atC (G : GX) (a : Nat) (c : Cel) (H : Heap) : Prop := va_at (gD G) clX (a, toE G c) H
def Rel (G : GX) (w : HW) (H : Heap) : Prop := H.size = w.2 ∧ (gH G).size ≤ w.2 ∧ (∀ a c, w.1 a = some c → (gH G).size ≤ a ∧ atC G a c H) ∧ ∀ q : Nat, q < (gH G).size → H[q]? = (gH G)[q]?
def hset (w : HW) (a : Nat) (c : Cel) : HW := (fun q => if q = a then some c else w.1 q, w.2)
def hnew (w : HW) (c : Cel) : HW := (fun q => if q = w.2 then some c else w.1 q, w.2 + 1)
theorem Rel.set {G : GX} {w : HW} {H H1 : Heap} {a : Nat} {c0 c : Cel} (h : Rel G w H) (ha : w.1 a = some c0) (hc : atC G a c H1) (hz : H1.size = H.size) (ho : ∀ q : Nat, q ≠ a → H1[q]? = H[q]?) : Rel G (hset w a c) H1 := by
  obtain ⟨h1, h2, h3, h4⟩ := h
  have hga := (h3 a c0 ha).1
  refine ⟨hz.trans h1, h2, fun q d hq => ?_, fun q hq => (ho q (by omega)).trans (h4 q hq)⟩
  by_cases e : q = a
  · subst e
    have : c = d := by simpa [hset] using hq
    subst this
    exact ⟨hga, hc⟩
  · have hq' : w.1 q = some d := by simpa [hset, e] using hq
    exact ⟨(h3 q d hq').1, (h3 q d hq').2.kept (ho q e)⟩
theorem Rel.new {G : GX} {w : HW} {H H1 : Heap} {c : Cel} (h : Rel G w H) (hc : atC G H.size c H1) (hz : H1.size = H.size + 1) (ho : ∀ q : Nat, q < H.size → H1[q]? = H[q]?) : Rel G (hnew w c) H1 := by
  obtain ⟨h1, h2, h3, h4⟩ := h
  refine ⟨by rw [hz, h1]; rfl, Nat.le_succ_of_le h2, fun q d hq => ?_, fun q hq => (ho q (by omega)).trans (h4 q hq)⟩
  by_cases e : q = w.2
  · subst e
    have : c = d := by simpa [hnew] using hq
    subst this
    exact ⟨h2, by rw [← h1]; exact hc⟩
  · have hq' : w.1 q = some d := by simpa [hnew, e] using hq
    obtain ⟨g1, g2⟩ := h3 q d hq'
    exact ⟨g1, g2.kept (ho q g2.lt)⟩
theorem Rel.at {G : GX} {w : HW} {H : Heap} {a : Nat} {c : Cel} (h : Rel G w H) (ha : w.1 a = some c) : va_P (gD G) clX [(a, toE G c)] H := by
  intro k q hk
  match k, hk with
  | 0, hk => cases hk; exact (h.2.2.1 a c ha).2
  | k + 1, hk => simp at hk
/-- what the tables and the start say, and keeps -/
def tysG (G : GX) : List (ClassId × FieldType) := [(gI G, .int), (gS G, .object "LagSolver$State")]
def fLeast : Nat → Value := fun j => if j = 0 then .int 20 else .int 0
def fMost : Nat → Value := fun j => if j = 0 then .int 500 else if j = 1 then .int 4 else .int 3
def AmbU (G : GX) (U : State) : Prop := va_K (gD G) clX (tysG G) U ∧ (∀ w ∈ nG, va_Nw w U) ∧ va_Z "LagSolver" "SETTING_LEAST" "[I" (.ref (gL G)) (gA G) U (gH G) ∧ va_Z "LagSolver" "SETTING_MOST" "[I" (.ref (gM G)) (gA G) U (gH G) ∧ va_T .int (gL G) 3 fLeast (gA G) U (gH G) ∧ va_T .int (gM G) 3 fMost (gA G) U (gH G) ∧ va_X (gb G) (gN G) (gx G) U (gH G) ∧ gb G < (gH G).size ∧ va_AO "LagSolver$State" U
theorem nest_moved {w : Cond} (hw : w ∈ nG) {s U : State} (hW : s.WarmedH U.vm) (h : va_Nw w s) : va_Nw w U := by
  have hb := (List.mem_filter.mp hw).2
  cases w <;> first | (simp [isNest] at hb; done) | exact va_Nw.warmM hW h | exact va_Nw.warmF hW h
theorem AmbU.moved {G : GX} {s U : State} (hW : s.WarmedH U.vm) (h : AmbU G s) : AmbU G U := by
  obtain ⟨h1, h2, h3, h4, h5, h6, h7, h8, h9⟩ := h
  exact ⟨va_K.moved hW.alike h1, fun w hw => nest_moved hw hW (h2 w hw), h3.moved hW.alike, h4.moved hW.alike, h5.moved hW.alike, h6.moved hW.alike, h7.moved hW.alike, h8, h9.moved hW.alike⟩
theorem AmbU.same {G : GX} {u U : State} (hvm : u.vm = U.vm) (h : AmbU G u) : AmbU G U := by
  obtain ⟨h1, h2, h3, h4, h5, h6, h7, h8, h9⟩ := h
  have ha : u.vm.Alike U.vm := by rw [hvm]; exact Vm.Alike.refl _
  refine ⟨va_K.moved ha h1, fun w hw => ?_, h3.moved ha, h4.moved ha, h5.moved ha, h6.moved ha, h7.moved ha, h8, h9.moved ha⟩
  have hb := (List.mem_filter.mp hw).2
  exact (h2 w hw).same (by cases w <;> first | (simp [isNest] at hb; done) | rfl) hvm
def rmX (d mc ms : Nat) : Room := { frames := d, cells := mc, slots := ms, locals := 40 * d }
def Amb (G : GX) (M : MD) (d mc ms : Nat) (p : Program) (R : Room) (s : State) (m : MethodId) (args : Array Value) (meth : Method) (c : Code) : Prop :=
  p.tables.exec = Jvm.exec ∧ c.code = M.2.1 ∧ c.maxLocals = M.2.2.1 ∧ s.vm.findClass M.1.cls = some m.cls ∧ (∀ w ∈ tG, w.before args s = true) ∧ (M.1.name = "<init>" → meth.name = "<init>") ∧ AmbU G s ∧ d ≤ R.frames ∧ 40 * d ≤ R.locals ∧ mc ≤ R.cells ∧ ms ≤ R.slots
def LocOK (G : GX) (locs : List Loc) : Prop := ∀ q ∈ locs, (gH G).size ≤ q.base
def RetAt (M : MD) (pc : Nat) : Option Value → Prop
  | some (.int v) => decode M.2.1 pc = .ok (.ireturn, 1) ∧ (M.2.2.2 = some .int ∨ (M.2.2.2 = some .boolean ∧ narrow .boolean (.int v) = .int v))
  | some (.long _) => decode M.2.1 pc = .ok (.lreturn, 1) ∧ M.2.2.2 = some .long
  | none => decode M.2.1 pc = .ok (.return_, 1) ∧ M.2.2.2 = none
  | _ => False
abbrev pushR : Option Value → List Value → List Value
  | some v, st => v :: st
  | none, st => st
def EndX (G : GX) (M : MD) (mc ms : Nat) (p : Program) (l : Launch) (e : Env) (R : Room) (s : State) (m : MethodId) (args : Array Value) (below : List Frame) (meth : Method) (c : Code) (Q : Option Value → HW → Prop) (Z : State → Prop) : Prop :=
  ∀ (r : Option Value) (w : HW) (H : Heap) (locs : List Loc) (k n pc : Nat) (ls : Array Slot), Q r w → Rel G w H → LocOK G locs → k ≤ mc → n ≤ ms → RetAt M pc r → W p l e R s m args below meth c H locs k n Z (F0 m pc ls (pushR r []))
def X (G : GX) (l : Launch) (M : MD) (d mc ms k n pc : Nat) (lv : List (Nat × Value)) (st : List Value) (w : HW) (Q : Option Value → HW → Prop) : Prop :=
  ∀ (p : Program) (e : Env) (R : Room) (s : State) (m : MethodId) (args : Array Value) (below : List Frame) (meth : Method) (c : Code) (Z : State → Prop) (H : Heap) (locs : List Loc) (ls : Array Slot),
    Amb G M d mc ms p R s m args meth c → EndX G M mc ms p l e R s m args below meth c Q Z → Rel G w H → LocOK G locs → lv_has ls M.2.2.1 lv → k ≤ mc → n ≤ ms → W p l e R s m args below meth c H locs k n Z (F0 m pc ls st)
def PcX (G : GX) (av : List Value) (w : HW) : Array Value → State → Prop := fun v U => v = av.toArray ∧ Rel G w U.heap ∧ AmbU G U
def QcX (G : GX) (Q : Option Value → HW → Prop) : Array Value → State → Outcome → State → Prop := fun _ _ o t => ∃ (r : Option Value) (w : HW), o = .returned r ∧ Q r w ∧ Rel G w t.heap
def Sp (G : GX) (l : Launch) (M : MD) (d mc ms : Nat) (av : List Value) (w : HW) (Q : Option Value → HW → Prop) : Prop :=
  Met l M.1 (Cond.code M.1 M.2.1 M.2.2.1 M.2.2.2 :: tG) (rmX d mc ms) (PcX G av w) (QcX G Q) mc ms (gA G)
theorem PcX.blind {G : GX} {av : List Value} {w : HW} : FrameBlind (PcX G av w) := fun a U g mk h => ⟨h.1, h.2.1, AmbU.same (u := U) (U := U.calling g mk a) rfl h.2.2⟩
set_option maxHeartbeats 1000000 in
theorem Sp.ofX {G : GX} {l : Launch} {M : MD} {d mc ms : Nat} {av : List Value} {w : HW} {Q : Option Value → HW → Prop} (hy : plainName M.1.cls = true) (hlen : (lg_sl av).length ≤ M.2.2.1) (hx : X G l M d mc ms 0 0 0 (lv_args 0 av) [] w Q) : Sp G l M d mc ms av w Q := by
  refine Met.ofW (cc := M.2.1) (maxL := M.2.2.1) (ret := M.2.2.2) hy rfl ?_
  intro p e s m args below meth c s₁ B hml hv
  obtain ⟨rfl, hR, hU⟩ := hv
  have hts := atoms_spec (ws := Cond.code M.1 M.2.1 M.2.2.1 M.2.2.2 :: tG) B.pre
  have hl := lv_entry av (n := M.2.2.1) hlen
  have hb := B.bytes
  have hxx := B.exec
  have hr := B.returns
  have hlocks := B.notSynchronized
  rw [lg_entry_eq]
  refine hx p e _ s m _ below meth c _ s.heap [] _ ⟨hxx, hb, hml, findClass_of_methodNamed B.named, fun w hw => hts w (List.mem_cons_of_mem _ hw), fun h => ?_, hU, Nat.le_refl _, Nat.le_refl _, Nat.le_refl _, Nat.le_refl _⟩ ?_ hR (fun q hq => by cases hq) hl (Nat.zero_le _) (Nat.zero_le _)
  · rw [← h]; exact (name_of_methodNamed B.named B.method).1
  · intro r w' H' locs k n pc ls hQ hR' hL hk hn hret
    refine W.widen (k := mc) (n := ms) hk hn ?_
    match r, hret with
    | none, hret => exact W.vret hxx hb (hr.trans hret.2) (fun t ht hW => ⟨none, w', rfl, hQ, by rw [ht]; exact hR'⟩) hL hret.1
    | some (.int v), hret =>
      rcases hret.2 with h | ⟨h, hn⟩
      · exact W.iret (v := v) hxx hb (hr.trans h) (fun t ht hW => ⟨some (.int v), w', rfl, hQ, by rw [ht]; exact hR'⟩) hL hret.1
      · exact W.zret (v := v) hxx hb (hr.trans h) hn (fun t ht hW => ⟨some (.int v), w', rfl, hQ, by rw [ht]; exact hR'⟩) hL hret.1
    | some (.long v), hret => exact W.lret (v := v) hxx hb (hr.trans hret.2) (fun t ht hW => ⟨some (.long v), w', rfl, hQ, by rw [ht]; exact hR'⟩) hL hret.1
theorem Sp.mono {G : GX} {l : Launch} {M : MD} {d mc ms : Nat} {av : List Value} {w : HW} {Q Q' : Option Value → HW → Prop} (h : Sp G l M d mc ms av w Q) (hq : ∀ r w, Q r w → Q' r w) : Sp G l M d mc ms av w Q' := by
  intro p e ha hc hk s m args below hf h1 h2 h3
  obtain ⟨k, o, g1, g2, g3, ⟨r, w', e1, e2, e3⟩, g4⟩ := h p e ha hc hk s m args below hf h1 h2 h3
  exact ⟨k, o, g1, g2, g3, ⟨r, w', e1, hq _ _ e2, e3⟩, g4⟩
