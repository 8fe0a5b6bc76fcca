/-! rules of the layer that touch the heap, and calls -/
theorem LocOK.app {G : GX} {locs : List Loc} {a i : Nat} (h : LocOK G locs) (ha : (gH G).size ≤ a) : LocOK G (locs ++ [⟨a, i⟩]) := by
  intro q hq
  rcases List.mem_append.mp hq with h1 | h1
  · exact h q h1
  · rw [List.mem_singleton.mp h1]; exact ha
theorem LocOK.apps {G : GX} {locs L : List Loc} (h : LocOK G locs) (hL : ∀ q ∈ L, gA G q.base) : LocOK G (locs ++ L) := by
  intro q hq
  rcases List.mem_append.mp hq with h1 | h1
  · exact h q h1
  · exact hL q h1
def ClsOk (ci : Nat) (C : String) (T : u_T) (N : Nat) (ty : Nat → FieldType) : Prop := clX[ci]? = some (C, T, N) ∧ (∀ w ∈ u_ws C T N, w ∈ tG) ∧ (∀ k, k < N → parseFieldDescriptor (T k).2.2.1 = some (ty k)) ∧ (∀ a, a < N → ∀ b, b < N → a ≠ b → (T a).2.1 ≠ (T b).2.1)
def GetOk (own : String) (idx ci f : Nat) : Prop := ∃ (C : String) (T : u_T) (N : Nat) (ty : Nat → FieldType), ClsOk ci C T N ty ∧ f < N ∧ (T f).1 = C ∧ Cond.fieldLink own idx C (T f).2.1 (T f).2.2.1 ∈ tG
def GetOkN (own : String) (idx ci f : Nat) : Prop := ∃ (C : String) (T : u_T) (N : Nat) (ty : Nat → FieldType) (host : String), ClsOk ci C T N ty ∧ f < N ∧ (T f).1 = C ∧ Cond.fieldLinkNest own idx C (T f).2.1 (T f).2.2.1 host ∈ nG
def PutOk (own : String) (idx ci f : Nat) (ty : FieldType) : Prop := ∃ (C : String) (T : u_T) (N : Nat) (tys : Nat → FieldType), ClsOk ci C T N tys ∧ f < N ∧ (T f).1 = C ∧ (T f).2.2.2 = false ∧ parseFieldDescriptor (T f).2.2.1 = some ty ∧ Cond.fieldLink own idx C (T f).2.1 (T f).2.2.1 ∈ tG
def PutFOk (own : String) (idx ci f : Nat) (ty : FieldType) : Prop := ∃ (C : String) (T : u_T) (N : Nat) (tys : Nat → FieldType), ClsOk ci C T N tys ∧ f < N ∧ (T f).1 = C ∧ C = own ∧ (T f).2.2.2 = true ∧ parseFieldDescriptor (T f).2.2.1 = some ty ∧ Cond.fieldLink own idx C (T f).2.1 (T f).2.2.1 ∈ tG
def NewOk (own : String) (idx ci N : Nat) (ty : Nat → FieldType) : Prop := ∃ (C : String) (T : u_T), ClsOk ci C T N ty ∧ Cond.classLink own idx C ∈ tG ∧ Cond.instantiable C N ∈ tG ∧ Cond.initialized C ∈ tG
section
variable {G : GX} {l : Launch} {M : MD} {d mc ms k n pc : Nat} {lv : List (Nat × Value)} {st : List Value} {w : HW} {Q : Option Value → HW → Prop}
theorem x_getf {o ci idx : Nat} {fs : List Value} {v : Value} (f : Nat) (F : GetOk M.1.cls idx ci f) (ho : w.1 o = some (cO ci fs)) (hv : fs[f]? = some v) (hdg : decode M.2.1 pc = .ok (.getfield idx, 3)) (kk : X G l M d mc ms k n (pc + 3) lv (v :: st) w Q) : X G l M d mc ms k n pc lv (.ref o :: st) w Q := by
  intro p e R s m args below meth c Z H locs ls A E hR hL hl hk hn
  obtain ⟨C, T, N, ty, ⟨c1, c2, c3, c4⟩, hf, hd1, hlk⟩ := F
  exact va_get A.1 A.2.1 A.2.2.2.2.1 c2 A.2.2.2.1 A.2.2.2.2.2.2.1.1 (hR.at ho) 0 rfl c1 f hf (A.2.2.2.2.1 _ hlk) (fun _ h => by rw [← hd1]; rw [hd1] at h; rw [hd1]; exact h) hv hdg (kk p e R s m args below meth c Z H locs ls A E hR hL hl hk hn)
theorem x_getfN {o ci idx : Nat} {fs : List Value} {v : Value} (f : Nat) (F : GetOkN M.1.cls idx ci f) (ho : w.1 o = some (cO ci fs)) (hv : fs[f]? = some v) (hdg : decode M.2.1 pc = .ok (.getfield idx, 3)) (kk : X G l M d mc ms k n (pc + 3) lv (v :: st) w Q) : X G l M d mc ms k n pc lv (.ref o :: st) w Q := by
  intro p e R s m args below meth c Z H locs ls A E hR hL hl hk hn
  obtain ⟨C, T, N, ty, host, ⟨c1, c2, c3, c4⟩, hf, hd1, hlk⟩ := F
  exact va_getN A.1 A.2.1 A.2.2.2.2.1 c2 A.2.2.2.1 A.2.2.2.2.2.2.1.1 (hR.at ho) 0 rfl c1 f hf (va_Nw.use rfl (A.2.2.2.2.2.2.1.2.1 _ hlk)) (fun _ h => by rw [hd1] at h; exact h) hv hdg (kk p e R s m args below meth c Z H locs ls A E hR hL hl hk hn)
theorem x_putf {o ci idx : Nat} {fs : List Value} {v : Value} (f : Nat) (ty : FieldType) (F : PutOk M.1.cls idx ci f ty) (ho : w.1 o = some (cO ci fs)) (hn1 : narrow ty v = v) (hn2 : fits ty v = true) (hlt : f < fs.length) (hdg : decode M.2.1 pc = .ok (.putfield idx, 3)) (kk : X G l M d mc ms k n (pc + 3) lv st (hset w o (cO ci (fs.set f v))) Q) : X G l M d mc ms k n pc lv (v :: .ref o :: st) w Q := by
  intro p e R s m args below meth c Z H locs ls A E hR hL hl hk hn
  obtain ⟨C, T, N, tys, ⟨c1, c2, c3, c4⟩, hf, hd1, hfin, hty, hlk⟩ := F
  have hts := A.2.2.2.2.1
  have hK := A.2.2.2.2.2.2.1.1
  have hap := va_apart (own := M.1.cls) hts c2 tys c3 c4 hK c1
  obtain ⟨r, h1, cell, q1, q2, q3, q4⟩ := hR.at ho 0 _ rfl
  have hr : r = (C, T, N) := Option.some.inj (h1.symm.trans c1)
  subst hr
  obtain ⟨hS, hfc, kC, hkC, hkind⟩ := hK.1 ci _ c1
  obtain ⟨cf, kf, fi, fd, hi, hsl⟩ := hS f hf
  have hlay := hts _ (c2 _ (u_in_lay hf))
  unfold u_lay at hlay
  rw [if_neg (by rw [hfin]; decide)] at hlay
  have hst := (u_facts hfc hkC (u_lays hts c2 hf) hi).1
  have h6 := u_store hfc hkC hkind hlay hi hty hn1 hn2
  have hi' : s.fieldFound? C (T f).2.1 (T f).2.2.1 = some (cf, kf, fi, fd) := by rw [← hi]; congr 1; exact hd1.symm
  refine W.putK A.1 A.2.1 (f := fd) ⟨A.2.2.2.1, hts _ hlk, ⟨_, _, _, hi'⟩, hst⟩ (by rw [q2]; exact h6) q1 q3 (by rw [hsl]; exact k2_hasslot (q4 f hf)) rfl rfl hdg fun H' e1 e2 e3 => ?_
  rw [hsl] at e1 ⊢
  exact kk p e R s m args below meth c Z H' _ ls A E (hR.set ho ⟨_, c1, t_OB.to (V := updV (vp_V fs) f v) ⟨_, e1, q2, q3, t_set q4 hap hf v⟩ (fun j _ => vp_updV_set hlt v j)⟩ e2 e3) (hL.app (hR.2.2.1 _ _ ho).1) hl hk hn
theorem x_putF {o ci idx : Nat} {fs : List Value} {v : Value} (f : Nat) (ty : FieldType) (F : PutFOk M.1.cls idx ci f ty) (hnm : M.1.name = "<init>") (ho : w.1 o = some (cO ci fs)) (hn1 : narrow ty v = v) (hn2 : fits ty v = true) (hlt : f < fs.length) (hdg : decode M.2.1 pc = .ok (.putfield idx, 3)) (kk : X G l M d mc ms k n (pc + 3) lv st (hset w o (cO ci (fs.set f v))) Q) : X G l M d mc ms k n pc lv (v :: .ref o :: st) w Q := by
  intro p e R s m args below meth c Z H locs ls A E hR hL hl hk hn
  obtain ⟨C, T, N, tys, ⟨c1, c2, c3, c4⟩, hf, hd1, hown, hfin, hty, hlk⟩ := F
  have hts := A.2.2.2.2.1
  have hK := A.2.2.2.2.2.2.1.1
  have hap := va_apart (own := M.1.cls) hts c2 tys c3 c4 hK c1
  obtain ⟨r, h1, cell, q1, q2, q3, q4⟩ := hR.at ho 0 _ rfl
  have hr : r = (C, T, N) := Option.some.inj (h1.symm.trans c1)
  subst hr
  obtain ⟨hS, hfc, kC, hkC, hkind⟩ := hK.1 ci _ c1
  obtain ⟨cf, kf, fi, fd, hi, hsl⟩ := hS f hf
  have hlay := hts _ (c2 _ (u_in_lay hf))
  unfold u_lay at hlay
  rw [if_pos hfin] at hlay
  have hst := (u_facts hfc hkC (u_lays hts c2 hf) hi).1
  have hcf : m.cls = cf := by
    obtain ⟨_, _, c', _, _, _, -, -, hf', -, -, -, hown2, -⟩ := Cond.laysFinal_spec hlay
    have e1 : c' = cf := by have := hi.symm.trans hf'; simp at this; exact this.1.symm
    rw [hd1, hown] at hown2
    rw [← e1]; exact Option.some.inj (A.2.2.2.1.symm.trans hown2)
  have h6 := u_fits hfc hkC hkind (Or.inr hlay) hi hty hn1 hn2
  have hi' : s.fieldFound? C (T f).2.1 (T f).2.2.1 = some (cf, kf, fi, fd) := by rw [← hi]; congr 1; exact hd1.symm
  refine W.putFinK A.1 A.2.1 A.2.2.2.1 (hts _ hlk) hi' hst hcf (A.2.2.2.2.2.1 hnm) (by rw [q2]; exact h6) q1 q3 (by rw [hsl]; exact k2_hasslot (q4 f hf)) rfl rfl hdg fun H' e1 e2 e3 => ?_
  rw [hsl] at e1 ⊢
  exact kk p e R s m args below meth c Z H' _ ls A E (hR.set ho ⟨_, c1, t_OB.to (V := updV (vp_V fs) f v) ⟨_, e1, q2, q3, t_set q4 hap hf v⟩ (fun j _ => vp_updV_set hlt v j)⟩ e2 e3) (hL.app (hR.2.2.1 _ _ ho).1) hl hk hn
theorem x_iald {a z : Nat} {f : Nat → Int32} {i : Int32} (ha : w.1 a = some (cI z f)) (hin : vp_in i z) (hdg : decode M.2.1 pc = .ok (.iaload, 1)) (kk : X G l M d mc ms k n (pc + 1) lv (.int (f i.toNatClampNeg) :: st) w Q) : X G l M d mc ms k n pc lv (.int i :: .ref a :: st) w Q := by
  intro p e R s m args below meth c Z H locs ls A E hR hL hl hk hn
  exact va_iald A.1 A.2.1 A.2.2.2.2.2.2.1.1 (hR.at ha) 0 0 rfl rfl hin hdg (kk p e R s m args below meth c Z H locs ls A E hR hL hl hk hn)
theorem x_aald {a z : Nat} {f : Nat → Option Nat} {i : Int32} (ha : w.1 a = some (cR z f)) (hin : vp_in i z) (hdg : decode M.2.1 pc = .ok (.aaload, 1)) (kk : X G l M d mc ms k n (pc + 1) lv (va_rf (f i.toNatClampNeg) :: st) w Q) : X G l M d mc ms k n pc lv (.int i :: .ref a :: st) w Q := by
  intro p e R s m args below meth c Z H locs ls A E hR hL hl hk hn
  exact va_aldq A.1 A.2.1 A.2.2.2.2.2.2.1.1 (hR.at ha) 0 1 rfl rfl hin hdg (kk p e R s m args below meth c Z H locs ls A E hR hL hl hk hn)
theorem x_alenI {a z : Nat} {f : Nat → Int32} (ha : w.1 a = some (cI z f)) (hdg : decode M.2.1 pc = .ok (.arraylength, 1)) (kk : X G l M d mc ms k n (pc + 1) lv (.int (nI z) :: st) w Q) : X G l M d mc ms k n pc lv (.ref a :: st) w Q := by
  intro p e R s m args below meth c Z H locs ls A E hR hL hl hk hn
  exact va_alen A.1 A.2.1 A.2.2.2.2.2.2.1.1 (hR.at ha) 0 0 rfl rfl rfl hdg (kk p e R s m args below meth c Z H locs ls A E hR hL hl hk hn)
theorem x_alenR {a z : Nat} {f : Nat → Option Nat} (ha : w.1 a = some (cR z f)) (hdg : decode M.2.1 pc = .ok (.arraylength, 1)) (kk : X G l M d mc ms k n (pc + 1) lv (.int (nI z) :: st) w Q) : X G l M d mc ms k n pc lv (.ref a :: st) w Q := by
  intro p e R s m args below meth c Z H locs ls A E hR hL hl hk hn
  exact va_alen A.1 A.2.1 A.2.2.2.2.2.2.1.1 (hR.at ha) 0 1 rfl rfl rfl hdg (kk p e R s m args below meth c Z H locs ls A E hR hL hl hk hn)
theorem x_iast {a z : Nat} {f : Nat → Int32} {i x : Int32} (ha : w.1 a = some (cI z f)) (hin : vp_in i z) (hdg : decode M.2.1 pc = .ok (.iastore, 1)) (kk : X G l M d mc ms k n (pc + 1) lv st (hset w a (cI z (upd f i.toNatClampNeg x))) Q) : X G l M d mc ms k n pc lv (.int x :: .int i :: .ref a :: st) w Q := by
  intro p e R s m args below meth c Z H locs ls A E hR hL hl hk hn
  have hc : H[a]? = some (vp_cell (gI G) (z, .inl f)) := hR.at ha 0 _ rfl
  refine W.iast A.1 A.2.1 hc ((A.2.2.2.2.2.2.1.1.2 0 _ rfl).1 z (fun j => .int (f j))) (fun q => by cases q) (by show ¬ (i < 0 ∨ (arrV _ _ _).slots.size ≤ _); rw [arrV_size]; exact hin) rfl rfl hdg fun H1 e1 z1 oq => ?_
  refine kk p e R s m args below meth c Z H1 _ ls A E (hR.set ha ?_ z1 oq) (hL.app (hR.2.2.1 _ _ ha).1) hl hk hn
  show H1[a]? = some (vp_cell _ _)
  rw [e1, vp_cell_i, vp_cell_i, arrV_store]
  congr 2
  funext q
  by_cases hq : q = i.toNatClampNeg
  · subst hq; simp [updV, upd]
  · simp [updV, upd, hq]
theorem x_aast {a z v ci : Nat} {f : Nat → Option Nat} {fs : List Value} {i : Int32} (ha : w.1 a = some (cR z f)) (hv : w.1 v = some (cO ci fs)) (hci : ∃ T N, clX[ci]? = some ("LagSolver$State", T, N)) (hin : vp_in i z) (hdg : decode M.2.1 pc = .ok (.aastore, 1)) (kk : X G l M d mc ms k n (pc + 1) lv st (hset w a (cR z (va_up f i.toNatClampNeg (some v)))) Q) : X G l M d mc ms k n pc lv (.ref v :: .int i :: .ref a :: st) w Q := by
  intro p e R s m args below meth c Z H locs ls A E hR hL hl hk hn
  obtain ⟨T, N, hci⟩ := hci
  have hK := A.2.2.2.2.2.2.1.1
  have hlt : i.toNatClampNeg < z := Nat.not_le.mp fun q => hin (Or.inr q)
  have h0 : ¬ i < 0 := fun q => hin (Or.inl q)
  have hc : H[a]? = some (vp_cell (gS G) (z, .inr (.inr (.inr (.inr f))))) := hR.at ha 0 _ rfl
  obtain ⟨r', hr', cellV, g1, g2, g3, -⟩ := hR.at hv 0 _ rfl
  have hcls := (hK.1 ci _ hci).2
  obtain ⟨kA, comp, k1, k2, k3, -⟩ := (hK.2 1 _ rfl).2
  have hcomp : comp = (gD G).1 ci := Option.some.inj (k3.symm.trans hcls.1)
  subst hcomp
  obtain ⟨kC, hkC, -⟩ := id hcls.2
  refine W.aast A.1 A.2.1 hc (fun q h => by cases h) (fun h => by cases h) k1 k2 rfl hkC ⟨h0, by show _ < (arrV _ _ _).slots.size; rw [arrV_size]; exact hlt⟩ g1 (fun q h => by rw [g3] at h; cases h) (by rw [g2]; exact hkC) (by rw [g2]; exact va_assign hcls) rfl rfl hdg fun H1 e1 z1 oq => ?_
  refine kk p e R s m args below meth c Z H1 _ ls A E (hR.set ha ?_ z1 oq) (hL.app (hR.2.2.1 _ _ ha).1) hl hk hn
  show H1[a]? = some (vp_cell _ _)
  rw [e1, vp_cell_q, vp_cell_q, arrV_store]
  congr 2
  funext q
  by_cases hq : q = i.toNatClampNeg
  · subst hq; simp [updV, va_up, va_rf]
  · simp [updV, va_up, hq]
theorem x_newaI {z : Int32} {N : Nat} (ht : Cond.arrayClass .int ∈ tG) (h0 : ¬ z < 0) (hN : z.toNatClampNeg = N) (hby : N * 4 ≤ 536870912) (hkc : k + 1 ≤ mc) (hkn : n + N ≤ ms) (hdg : decode M.2.1 pc = .ok (.newarray .int, 2)) (kk : X G l M d mc ms (k + 1) (n + N) (pc + 2) lv (.ref w.2 :: st) (hnew w (cI N (fun _ => 0))) Q) : X G l M d mc ms k n pc lv (.int z :: st) w Q := by
  intro p e R s m args below meth c Z H locs ls A E hR hL hl hk hn
  have hK := A.2.2.2.2.2.2.1.1
  refine va_newaK A.1 A.2.1 (atype := .int) (A.2.2.2.2.1 _ ht) rfl hdg rfl h0 hN hby (Nat.le_trans hkc A.2.2.2.2.2.2.2.2.2.1) (Nat.le_trans hkn A.2.2.2.2.2.2.2.2.2.2) hR.1 fun H1 cA e1 z1 o1 hAr hNm => ?_
  have hcA : cA = gI G := Option.some.inj (hNm.symm.trans (hK.2 0 _ rfl).2)
  subst hcA
  exact kk p e R s m args below meth c Z H1 _ ls A E (hR.new (show H1[H.size]? = some (vp_cell _ _) by rw [hR.1, e1]; rfl) (by rw [z1, hR.1]) (fun q hq => o1 q (by rw [← hR.1]; exact hq))) hL hl hkc hkn
theorem x_newaR {z : Int32} {N idx : Nat} (ht : Cond.classLink M.1.cls idx "LagSolver$State" ∈ tG) (h0 : ¬ z < 0) (hN : z.toNatClampNeg = N) (hby : N * 4 ≤ 536870912) (hkc : k + 1 ≤ mc) (hkn : n + N ≤ ms) (hdg : decode M.2.1 pc = .ok (.anewarray idx, 3)) (kk : X G l M d mc ms (k + 1) (n + N) (pc + 3) lv (.ref w.2 :: st) (hnew w (cR N (fun _ => none))) Q) : X G l M d mc ms k n pc lv (.int z :: st) w Q := by
  intro p e R s m args below meth c Z H locs ls A E hR hL hl hk hn
  have hK := A.2.2.2.2.2.2.1.1
  subst hN
  refine W.anew A.1 A.2.1 A.2.2.2.1 (A.2.2.2.2.1 _ ht) (va_AO.use A.2.2.2.2.2.2.1.2.2.2.2.2.2.2.2) rfl hdg rfl h0 hby (Nat.le_trans hkc A.2.2.2.2.2.2.2.2.2.1) (Nat.le_trans hkn A.2.2.2.2.2.2.2.2.2.2) fun cA kA comp f1 f2 f3 f4 => ?_
  obtain ⟨kA', comp', -, -, -, k4⟩ := (hK.2 1 _ rfl).2
  have hcA : cA = gS G := Option.some.inj (f1.symm.trans k4)
  subst hcA
  generalize hH1 : H.push ({ cls := gS G, slots := Array.replicate z.toNatClampNeg .null, vm := .none } : Cell) = H1
  have z1 : H1.size = H.size + 1 := by rw [← hH1, Array.size_push]
  have e1 : H1[H.size]? = some (arrV (gS G) z.toNatClampNeg (fun _ => .null)) := by rw [← hH1, Array.getElem?_push_size, ← arrV_new]
  have o1 : ∀ q : Nat, q < H.size → H1[q]? = H[q]? := fun q hq => by rw [← hH1, Array.getElem?_push, if_neg (Nat.ne_of_lt hq)]
  have := kk p e R s m args below meth c Z H1 _ ls A E (hR.new (show H1[H.size]? = some (vp_cell _ _) by rw [e1]; rfl) z1 o1) hL hl hkc hkn
  rw [← hR.1] at this
  exact this
theorem x_new {idx ci N : Nat} {ty : Nat → FieldType} (fs : List Value) (F : NewOk M.1.cls idx ci N ty) (hfs : ∀ j, j < N → defaultValue (ty j) = vp_V fs j) (hkc : k + 1 ≤ mc) (hkn : n + N ≤ ms) (hdg : decode M.2.1 pc = .ok (.new idx, 3)) (kk : X G l M d mc ms (k + 1) (n + N) (pc + 3) lv (.ref w.2 :: st) (hnew w (cO ci fs)) Q) : X G l M d mc ms k n pc lv st w Q := by
  intro p e R s m args below meth c Z H locs ls A E hR hL hl hk hn
  obtain ⟨C, T, ⟨c1, c2, c3, c4⟩, hcl, hins, hini⟩ := F
  have hts := A.2.2.2.2.1
  have hKn := A.2.2.2.2.2.2.1.1.1 ci _ c1
  refine W.newcK A.1 A.2.1 A.2.2.2.1 (hts _ hcl) (hts _ hins) (hts _ hini) rfl hdg (Nat.le_trans hkc A.2.2.2.2.2.2.2.2.2.1) (Nat.le_trans hkn A.2.2.2.2.2.2.2.2.2.2) hKn.2.1 hR.1 fun H1 kC hkC e1 z1 o1 => ?_
  exact kk p e R s m args below meth c Z H1 _ ls A E (hR.new (by rw [hR.1]; exact ⟨_, c1, (u_born ty hts c2 hKn hkC e1 c3).to hfs⟩) (by rw [z1, hR.1]) (fun q hq => o1 q (by rw [← hR.1]; exact hq))) hL hl hkc hkn
theorem x_objInit {o idx : Nat} (h1 : Cond.methodLink M.1.cls idx Lib.objectInit ∈ tG) (h2 : Cond.instanceMethod Lib.objectInit ∈ tG) (h3 : Cond.code Lib.objectInit ⟨#[0xb1]⟩ 1 none ∈ tG) (hd0 : 1 ≤ d) (hst : (st.map fun v => v.category).sum ≤ 8) (hdg : decode M.2.1 pc = .ok (.invokespecial idx, 3)) (kk : X G l M d mc ms k n (pc + 3) lv st w Q) : X G l M d mc ms k n pc lv (.ref o :: st) w Q := by
  intro p e R s m args below meth c Z H locs ls A E hR hL hl hk hn
  have h40 := A.2.2.2.2.2.2.2.2.1
  exact W.objInit A.1 A.2.1 A.2.2.2.1 (A.2.2.2.2.1 _ h1) (A.2.2.2.2.1 _ h2) (A.2.2.2.2.1 _ h3) rfl (hl.1.trans A.2.2.1.symm) rfl hdg (Nat.le_trans hd0 A.2.2.2.2.2.2.2.1) (by show 2 * 0 + _ + 12 ≤ _; omega) (kk p e R s m args below meth c Z H locs ls A E hR hL hl hk hn)
theorem x_gets {idx : Nat} (t : Nat) (nm : String) (hz : ∀ U, AmbU G U → va_Z "LagSolver" nm "[I" (.ref t) (gA G) U (gH G)) (hlk : Cond.fieldLink M.1.cls idx "LagSolver" nm "[I" ∈ tG) (hdg : decode M.2.1 pc = .ok (.getstatic idx, 3)) (kk : X G l M d mc ms k n (pc + 3) lv (.ref t :: st) w Q) : X G l M d mc ms k n pc lv st w Q := by
  intro p e R s m args below meth c Z H locs ls A E hR hL hl hk hn
  obtain ⟨cf, kf, fi, f, a, cell, h1, h2, h3, h4, h5, h6, h7, h8⟩ := hz s A.2.2.2.2.2.2.1
  exact W.gets A.1 A.2.1 A.2.2.2.1 (A.2.2.2.2.1 _ hlk) h1 h2 h3 h4 (by rw [hR.2.2.2 a (Array.getElem?_eq_some_iff.mp h5).1]; exact h5) (fun e => by rw [e] at h6; cases h6) h7 rfl hdg (kk p e R s m args below meth c Z H locs ls A E hR hL hl hk hn)
/-- an int array from before the law's start, of which the start is known -/
def RoA (G : GX) (a z : Nat) (f : Nat → Int32) : Prop := ∀ U, AmbU G U → ∃ cell : Cell, (gH G)[a]? = some cell ∧ U.isArrayOf cell .int ∧ cell.vm ≠ .unknown ∧ z ≤ cell.slots.size ∧ cell.slots.size.toInt32 = nI z ∧ (∀ j : Nat, j < z → cell.slots[j]? = some (.int (f j)))
theorem x_ialdRo {a z : Nat} {f : Nat → Int32} {i : Int32} (ha : RoA G a z f) (hin : vp_in i z) (hdg : decode M.2.1 pc = .ok (.iaload, 1)) (kk : X G l M d mc ms k n (pc + 1) lv (.int (f i.toNatClampNeg) :: st) w Q) : X G l M d mc ms k n pc lv (.int i :: .ref a :: st) w Q := by
  intro p e R s m args below meth c Z H locs ls A E hR hL hl hk hn
  obtain ⟨cell, h1, h2, h3, h4, h5, h6⟩ := ha s A.2.2.2.2.2.2.1
  have hlt : i.toNatClampNeg < z := Nat.not_le.mp fun q => hin (Or.inr q)
  exact W.iald (v := .int (f i.toNatClampNeg)) A.1 A.2.1 (by rw [hR.2.2.2 a (Array.getElem?_eq_some_iff.mp h1).1]; exact h1) h2 h3 (fun q => hin (q.imp id (fun q => by omega))) (h6 _ hlt) rfl rfl hdg (kk p e R s m args below meth c Z H locs ls A E hR hL hl hk hn)
theorem x_alenRo {a z : Nat} {f : Nat → Int32} (ha : RoA G a z f) (hdg : decode M.2.1 pc = .ok (.arraylength, 1)) (kk : X G l M d mc ms k n (pc + 1) lv (.int (nI z) :: st) w Q) : X G l M d mc ms k n pc lv (.ref a :: st) w Q := by
  intro p e R s m args below meth c Z H locs ls A E hR hL hl hk hn
  obtain ⟨cell, h1, h2, h3, h4, h5, h6⟩ := ha s A.2.2.2.2.2.2.1
  exact W.alen (n := nI z) A.1 A.2.1 (by rw [hR.2.2.2 a (Array.getElem?_eq_some_iff.mp h1).1]; exact h1) h2 h5 rfl rfl hdg (kk p e R s m args below meth c Z H locs ls A E hR hL hl hk hn)
theorem roScript {G : GX} : RoA G (gb G) (gN G) (gx G) := fun U h => by
  obtain ⟨scr, h1, h2, h3, h4, h5⟩ := h.2.2.2.2.2.2.1
  exact ⟨scr, h1, h2, h3, Nat.le_of_eq h4.symm, by rw [h4]; rfl, h5⟩
end
