section
variable {G : GX} {l : Launch} {M : MD} {d mc ms k n pc : Nat} {lv : List (Nat × Value)} {st : List Value} {w : HW} {Q : Option Value → HW → Prop}
theorem x_iconst {q : Int} {v : Int32} (hdg : decode M.2.1 pc = .ok (.iconst q, 1)) (hv : Int32.ofInt q = v) (kk : X G l M d mc ms k n (pc + 1) lv (.int v :: st) w Q) : X G l M d mc ms k n pc lv (st) w Q := by
  intro p e R s m args below meth c Z H locs ls A E hR hL hl hk hn
  exact lv_iconst A.1 A.2.1 hdg hv (kk p e R s m args below meth c Z H locs ls A E hR hL hl hk hn)
theorem x_bipush {q : Int} {v : Int32} (hdg : decode M.2.1 pc = .ok (.bipush q, 2)) (hv : (Int8.ofInt q).toInt32 = v) (kk : X G l M d mc ms k n (pc + 2) lv (.int v :: st) w Q) : X G l M d mc ms k n pc lv (st) w Q := by
  intro p e R s m args below meth c Z H locs ls A E hR hL hl hk hn
  exact lv_bipush A.1 A.2.1 hdg hv (kk p e R s m args below meth c Z H locs ls A E hR hL hl hk hn)
theorem x_sipush {q : Int} {v : Int32} (hdg : decode M.2.1 pc = .ok (.sipush q, 3)) (hv : (Int16.ofInt q).toInt32 = v) (kk : X G l M d mc ms k n (pc + 3) lv (.int v :: st) w Q) : X G l M d mc ms k n pc lv (st) w Q := by
  intro p e R s m args below meth c Z H locs ls A E hR hL hl hk hn
  exact lv_sipush A.1 A.2.1 hdg hv (kk p e R s m args below meth c Z H locs ls A E hR hL hl hk hn)
theorem x_lconst {q : Fin 2} {v : Int64} (hdg : decode M.2.1 pc = .ok (.lconst q, 1)) (hv : Int64.ofNat (q : Nat) = v) (kk : X G l M d mc ms k n (pc + 1) lv (.long v :: st) w Q) : X G l M d mc ms k n pc lv (st) w Q := by
  intro p e R s m args below meth c Z H locs ls A E hR hL hl hk hn
  exact lv_lconst A.1 A.2.1 hdg hv (kk p e R s m args below meth c Z H locs ls A E hR hL hl hk hn)
theorem x_iadd {x y : Int32} (hdg : decode M.2.1 pc = .ok (.iadd, 1)) (kk : X G l M d mc ms k n (pc + 1) lv (.int (x + y) :: st) w Q) : X G l M d mc ms k n pc lv (.int y :: .int x :: st) w Q := by
  intro p e R s m args below meth c Z H locs ls A E hR hL hl hk hn
  exact lv_iadd A.1 A.2.1 hdg (kk p e R s m args below meth c Z H locs ls A E hR hL hl hk hn)
theorem x_isub {x y : Int32} (hdg : decode M.2.1 pc = .ok (.isub, 1)) (kk : X G l M d mc ms k n (pc + 1) lv (.int (x - y) :: st) w Q) : X G l M d mc ms k n pc lv (.int y :: .int x :: st) w Q := by
  intro p e R s m args below meth c Z H locs ls A E hR hL hl hk hn
  exact lv_isub A.1 A.2.1 hdg (kk p e R s m args below meth c Z H locs ls A E hR hL hl hk hn)
theorem x_imul {x y : Int32} (hdg : decode M.2.1 pc = .ok (.imul, 1)) (kk : X G l M d mc ms k n (pc + 1) lv (.int (x * y) :: st) w Q) : X G l M d mc ms k n pc lv (.int y :: .int x :: st) w Q := by
  intro p e R s m args below meth c Z H locs ls A E hR hL hl hk hn
  exact lv_imul A.1 A.2.1 hdg (kk p e R s m args below meth c Z H locs ls A E hR hL hl hk hn)
theorem x_iand {x y : Int32} (hdg : decode M.2.1 pc = .ok (.iand, 1)) (kk : X G l M d mc ms k n (pc + 1) lv (.int (x &&& y) :: st) w Q) : X G l M d mc ms k n pc lv (.int y :: .int x :: st) w Q := by
  intro p e R s m args below meth c Z H locs ls A E hR hL hl hk hn
  exact lv_iand A.1 A.2.1 hdg (kk p e R s m args below meth c Z H locs ls A E hR hL hl hk hn)
theorem x_ior {x y : Int32} (hdg : decode M.2.1 pc = .ok (.ior, 1)) (kk : X G l M d mc ms k n (pc + 1) lv (.int (x ||| y) :: st) w Q) : X G l M d mc ms k n pc lv (.int y :: .int x :: st) w Q := by
  intro p e R s m args below meth c Z H locs ls A E hR hL hl hk hn
  exact lv_ior A.1 A.2.1 hdg (kk p e R s m args below meth c Z H locs ls A E hR hL hl hk hn)
theorem x_idiv {x y : Int32} (hdg : decode M.2.1 pc = .ok (.idiv, 1)) (hne : ¬ y = 0) (kk : X G l M d mc ms k n (pc + 1) lv (.int (x / y) :: st) w Q) : X G l M d mc ms k n pc lv (.int y :: .int x :: st) w Q := by
  intro p e R s m args below meth c Z H locs ls A E hR hL hl hk hn
  exact lv_idiv A.1 A.2.1 hdg hne (kk p e R s m args below meth c Z H locs ls A E hR hL hl hk hn)
theorem x_ineg {x : Int32} (hdg : decode M.2.1 pc = .ok (.ineg, 1)) (kk : X G l M d mc ms k n (pc + 1) lv (.int (-x) :: st) w Q) : X G l M d mc ms k n pc lv (.int x :: st) w Q := by
  intro p e R s m args below meth c Z H locs ls A E hR hL hl hk hn
  exact lv_ineg A.1 A.2.1 hdg (kk p e R s m args below meth c Z H locs ls A E hR hL hl hk hn)
theorem x_irem {x y : Int32} (hdg : decode M.2.1 pc = .ok (.irem, 1)) (hne : ¬ y = 0) (kk : X G l M d mc ms k n (pc + 1) lv (.int (x - x / y * y) :: st) w Q) : X G l M d mc ms k n pc lv (.int y :: .int x :: st) w Q := by
  intro p e R s m args below meth c Z H locs ls A E hR hL hl hk hn
  exact lv_irem A.1 A.2.1 hdg hne (kk p e R s m args below meth c Z H locs ls A E hR hL hl hk hn)
theorem x_ixor {x y : Int32} (hdg : decode M.2.1 pc = .ok (.ixor, 1)) (kk : X G l M d mc ms k n (pc + 1) lv (.int (x ^^^ y) :: st) w Q) : X G l M d mc ms k n pc lv (.int y :: .int x :: st) w Q := by
  intro p e R s m args below meth c Z H locs ls A E hR hL hl hk hn
  exact lv_ixor A.1 A.2.1 hdg (kk p e R s m args below meth c Z H locs ls A E hR hL hl hk hn)
theorem x_pop {va : Value} (hdg : decode M.2.1 pc = .ok (.pop, 1)) (hva : va.category = 1) (kk : X G l M d mc ms k n (pc + 1) lv (st) w Q) : X G l M d mc ms k n pc lv (va :: st) w Q := by
  intro p e R s m args below meth c Z H locs ls A E hR hL hl hk hn
  exact lv_pop A.1 A.2.1 hdg hva (kk p e R s m args below meth c Z H locs ls A E hR hL hl hk hn)
theorem x_ladd {x y : Int64} (hdg : decode M.2.1 pc = .ok (.ladd, 1)) (kk : X G l M d mc ms k n (pc + 1) lv (.long (x + y) :: st) w Q) : X G l M d mc ms k n pc lv (.long y :: .long x :: st) w Q := by
  intro p e R s m args below meth c Z H locs ls A E hR hL hl hk hn
  exact lv_ladd A.1 A.2.1 hdg (kk p e R s m args below meth c Z H locs ls A E hR hL hl hk hn)
theorem x_lsub {x y : Int64} (hdg : decode M.2.1 pc = .ok (.lsub, 1)) (kk : X G l M d mc ms k n (pc + 1) lv (.long (x - y) :: st) w Q) : X G l M d mc ms k n pc lv (.long y :: .long x :: st) w Q := by
  intro p e R s m args below meth c Z H locs ls A E hR hL hl hk hn
  exact lv_lsub A.1 A.2.1 hdg (kk p e R s m args below meth c Z H locs ls A E hR hL hl hk hn)
theorem x_lmul {x y : Int64} (hdg : decode M.2.1 pc = .ok (.lmul, 1)) (kk : X G l M d mc ms k n (pc + 1) lv (.long (x * y) :: st) w Q) : X G l M d mc ms k n pc lv (.long y :: .long x :: st) w Q := by
  intro p e R s m args below meth c Z H locs ls A E hR hL hl hk hn
  exact lv_lmul A.1 A.2.1 hdg (kk p e R s m args below meth c Z H locs ls A E hR hL hl hk hn)
theorem x_ldiv {x y : Int64} (hdg : decode M.2.1 pc = .ok (.ldiv, 1)) (hne : ¬ y = 0) (kk : X G l M d mc ms k n (pc + 1) lv (.long (x / y) :: st) w Q) : X G l M d mc ms k n pc lv (.long y :: .long x :: st) w Q := by
  intro p e R s m args below meth c Z H locs ls A E hR hL hl hk hn
  exact lv_ldiv A.1 A.2.1 hdg hne (kk p e R s m args below meth c Z H locs ls A E hR hL hl hk hn)
theorem x_lneg {x : Int64} (hdg : decode M.2.1 pc = .ok (.lneg, 1)) (kk : X G l M d mc ms k n (pc + 1) lv (.long (-x) :: st) w Q) : X G l M d mc ms k n pc lv (.long x :: st) w Q := by
  intro p e R s m args below meth c Z H locs ls A E hR hL hl hk hn
  exact lv_lneg A.1 A.2.1 hdg (kk p e R s m args below meth c Z H locs ls A E hR hL hl hk hn)
theorem x_ishl {x y : Int32} (hdg : decode M.2.1 pc = .ok (.ishl, 1)) (kk : X G l M d mc ms k n (pc + 1) lv (.int (x <<< (y &&& 31)) :: st) w Q) : X G l M d mc ms k n pc lv (.int y :: .int x :: st) w Q := by
  intro p e R s m args below meth c Z H locs ls A E hR hL hl hk hn
  exact lv_ishl A.1 A.2.1 hdg (kk p e R s m args below meth c Z H locs ls A E hR hL hl hk hn)
theorem x_ishr {x y : Int32} (hdg : decode M.2.1 pc = .ok (.ishr, 1)) (kk : X G l M d mc ms k n (pc + 1) lv (.int (x >>> (y &&& 31)) :: st) w Q) : X G l M d mc ms k n pc lv (.int y :: .int x :: st) w Q := by
  intro p e R s m args below meth c Z H locs ls A E hR hL hl hk hn
  exact lv_ishr A.1 A.2.1 hdg (kk p e R s m args below meth c Z H locs ls A E hR hL hl hk hn)
theorem x_i2l {x : Int32} {v : Int64} (hdg : decode M.2.1 pc = .ok (.i2l, 1)) (hv : x.toInt64 = v) (kk : X G l M d mc ms k n (pc + 1) lv (.long v :: st) w Q) : X G l M d mc ms k n pc lv (.int x :: st) w Q := by
  intro p e R s m args below meth c Z H locs ls A E hR hL hl hk hn
  exact lv_i2l A.1 A.2.1 hdg hv (kk p e R s m args below meth c Z H locs ls A E hR hL hl hk hn)
theorem x_l2i {x : Int64} {v : Int32} (hdg : decode M.2.1 pc = .ok (.l2i, 1)) (hv : x.toInt32 = v) (kk : X G l M d mc ms k n (pc + 1) lv (.int v :: st) w Q) : X G l M d mc ms k n pc lv (.long x :: st) w Q := by
  intro p e R s m args below meth c Z H locs ls A E hR hL hl hk hn
  exact lv_l2i A.1 A.2.1 hdg hv (kk p e R s m args below meth c Z H locs ls A E hR hL hl hk hn)
theorem x_dup {va : Value} (hdg : decode M.2.1 pc = .ok (.dup, 1)) (hva : va.category = 1) (kk : X G l M d mc ms k n (pc + 1) lv (va :: va :: st) w Q) : X G l M d mc ms k n pc lv (va :: st) w Q := by
  intro p e R s m args below meth c Z H locs ls A E hR hL hl hk hn
  exact lv_dup A.1 A.2.1 hdg hva (kk p e R s m args below meth c Z H locs ls A E hR hL hl hk hn)
theorem x_dup2_11 {va vb : Value} (hdg : decode M.2.1 pc = .ok (.dup2, 1)) (hva : va.category = 1) (hvb : vb.category = 1) (kk : X G l M d mc ms k n (pc + 1) lv (va :: vb :: va :: vb :: st) w Q) : X G l M d mc ms k n pc lv (va :: vb :: st) w Q := by
  intro p e R s m args below meth c Z H locs ls A E hR hL hl hk hn
  exact lv_dup2_11 A.1 A.2.1 hdg hva hvb (kk p e R s m args below meth c Z H locs ls A E hR hL hl hk hn)
theorem x_goto {off : Int} {tgt : Nat} (hdg : decode M.2.1 pc = .ok (.goto off, 3)) (ht : (pc : Int) + off = (tgt : Int)) (kk : X G l M d mc ms k n tgt lv st w Q) : X G l M d mc ms k n pc lv st w Q := by
  intro p e R s m args below meth c Z H locs ls A E hR hL hl hk hn
  exact lv_goto A.1 A.2.1 hdg ht (kk p e R s m args below meth c Z H locs ls A E hR hL hl hk hn)
theorem x_ifnonnull {x : Nat} {off : Int} {tgt : Nat} (hdg : decode M.2.1 pc = .ok (.ifnonnull off, 3)) (ht : (pc : Int) + off = (tgt : Int)) (kk : X G l M d mc ms k n tgt lv st w Q) : X G l M d mc ms k n pc lv (.ref x :: st) w Q := by
  intro p e R s m args below meth c Z H locs ls A E hR hL hl hk hn
  exact lv_ifnonnull A.1 A.2.1 hdg ht (kk p e R s m args below meth c Z H locs ls A E hR hL hl hk hn)
theorem x_ifnull {x : Nat} {off : Int} (hdg : decode M.2.1 pc = .ok (.ifnull off, 3)) (kk : X G l M d mc ms k n (pc + 3) lv st w Q) : X G l M d mc ms k n pc lv (.ref x :: st) w Q := by
  intro p e R s m args below meth c Z H locs ls A E hR hL hl hk hn
  exact lv_ifnull A.1 A.2.1 hdg (kk p e R s m args below meth c Z H locs ls A E hR hL hl hk hn)
theorem x_null (hdg : decode M.2.1 pc = .ok (.aconst_null, 1)) (kk : X G l M d mc ms k n (pc + 1) lv (.null :: st) w Q) : X G l M d mc ms k n pc lv st w Q := by
  intro p e R s m args below meth c Z H locs ls A E hR hL hl hk hn
  exact lv_null A.1 A.2.1 hdg (kk p e R s m args below meth c Z H locs ls A E hR hL hl hk hn)
theorem x_ifnullN {off : Int} {tgt : Nat} (hdg : decode M.2.1 pc = .ok (.ifnull off, 3)) (ht : (pc : Int) + off = (tgt : Int)) (kk : X G l M d mc ms k n tgt lv st w Q) : X G l M d mc ms k n pc lv (.null :: st) w Q := by
  intro p e R s m args below meth c Z H locs ls A E hR hL hl hk hn
  exact lv_ifnullN A.1 A.2.1 hdg ht (kk p e R s m args below meth c Z H locs ls A E hR hL hl hk hn)
theorem x_ifnonnullN {off : Int} (hdg : decode M.2.1 pc = .ok (.ifnonnull off, 3)) (kk : X G l M d mc ms k n (pc + 3) lv st w Q) : X G l M d mc ms k n pc lv (.null :: st) w Q := by
  intro p e R s m args below meth c Z H locs ls A E hR hL hl hk hn
  exact lv_ifnonnullN A.1 A.2.1 hdg (kk p e R s m args below meth c Z H locs ls A E hR hL hl hk hn)
theorem x_tableIn {dflt lo hi : Int} {offs : Array Int} {len : Nat} {x : Int32} {off : Int} {tgt : Nat} (hdg : decode M.2.1 pc = .ok (.tableswitch dflt lo hi offs, len)) (h1 : ¬ x.toInt < lo) (h2 : ¬ hi < x.toInt) (ho : offs[(x.toInt - lo).toNat]? = some off) (ht : (pc : Int) + off = (tgt : Int)) (kk : X G l M d mc ms k n tgt lv st w Q) : X G l M d mc ms k n pc lv (.int x :: st) w Q := by
  intro p e R s m args below meth c Z H locs ls A E hR hL hl hk hn
  exact lv_tableIn A.1 A.2.1 hdg h1 h2 ho ht (kk p e R s m args below meth c Z H locs ls A E hR hL hl hk hn)
theorem x_tableOut {dflt lo hi : Int} {offs : Array Int} {len : Nat} {x : Int32} {tgt : Nat} (hdg : decode M.2.1 pc = .ok (.tableswitch dflt lo hi offs, len)) (h : x.toInt < lo ∨ hi < x.toInt) (ht : (pc : Int) + dflt = (tgt : Int)) (kk : X G l M d mc ms k n tgt lv st w Q) : X G l M d mc ms k n pc lv (.int x :: st) w Q := by
  intro p e R s m args below meth c Z H locs ls A E hR hL hl hk hn
  exact lv_tableOut A.1 A.2.1 hdg h ht (kk p e R s m args below meth c Z H locs ls A E hR hL hl hk hn)
theorem x_lookup {dflt : Int} {ps : Array (Int × Int)} {len : Nat} {x : Int32} {off : Int} {tgt : Nat} (hdg : decode M.2.1 pc = .ok (.lookupswitch dflt ps, len)) (hp : (ps.toList.zip (ps.toList.drop 1)).all (fun (a, next) => a.1 < next.1) = true) (ho : Op.lookupswitch.offset ps.toList dflt x.toInt = off) (ht : (pc : Int) + off = (tgt : Int)) (kk : X G l M d mc ms k n tgt lv st w Q) : X G l M d mc ms k n pc lv (.int x :: st) w Q := by
  intro p e R s m args below meth c Z H locs ls A E hR hL hl hk hn
  exact lv_lookup A.1 A.2.1 hdg hp ho ht (kk p e R s m args below meth c Z H locs ls A E hR hL hl hk hn)
theorem x_if_eq {x : Int32} {off : Int} {tgt : Nat} (hdg : decode M.2.1 pc = .ok (.ifCond .eq off, 3)) (ht : (pc : Int) + off = (tgt : Int)) (kt : x = 0 → X G l M d mc ms k n tgt lv st w Q) (kf : ¬ x = 0 → X G l M d mc ms k n (pc + 3) lv st w Q) : X G l M d mc ms k n pc lv (.int x :: st) w Q := by
  intro p e R s m args below meth c Z H locs ls A E hR hL hl hk hn
  exact lv_if_eq A.1 A.2.1 hdg ht (fun hc => kt hc p e R s m args below meth c Z H locs ls A E hR hL hl hk hn) (fun hc => kf hc p e R s m args below meth c Z H locs ls A E hR hL hl hk hn)
theorem x_icmp_eq {x y : Int32} {off : Int} {tgt : Nat} (hdg : decode M.2.1 pc = .ok (.if_icmp .eq off, 3)) (ht : (pc : Int) + off = (tgt : Int)) (kt : x = y → X G l M d mc ms k n tgt lv st w Q) (kf : ¬ x = y → X G l M d mc ms k n (pc + 3) lv st w Q) : X G l M d mc ms k n pc lv (.int y :: .int x :: st) w Q := by
  intro p e R s m args below meth c Z H locs ls A E hR hL hl hk hn
  exact lv_icmp_eq A.1 A.2.1 hdg ht (fun hc => kt hc p e R s m args below meth c Z H locs ls A E hR hL hl hk hn) (fun hc => kf hc p e R s m args below meth c Z H locs ls A E hR hL hl hk hn)
theorem x_if_ne {x : Int32} {off : Int} {tgt : Nat} (hdg : decode M.2.1 pc = .ok (.ifCond .ne off, 3)) (ht : (pc : Int) + off = (tgt : Int)) (kt : ¬ x = 0 → X G l M d mc ms k n tgt lv st w Q) (kf : x = 0 → X G l M d mc ms k n (pc + 3) lv st w Q) : X G l M d mc ms k n pc lv (.int x :: st) w Q := by
  intro p e R s m args below meth c Z H locs ls A E hR hL hl hk hn
  exact lv_if_ne A.1 A.2.1 hdg ht (fun hc => kt hc p e R s m args below meth c Z H locs ls A E hR hL hl hk hn) (fun hc => kf hc p e R s m args below meth c Z H locs ls A E hR hL hl hk hn)
theorem x_icmp_ne {x y : Int32} {off : Int} {tgt : Nat} (hdg : decode M.2.1 pc = .ok (.if_icmp .ne off, 3)) (ht : (pc : Int) + off = (tgt : Int)) (kt : ¬ x = y → X G l M d mc ms k n tgt lv st w Q) (kf : x = y → X G l M d mc ms k n (pc + 3) lv st w Q) : X G l M d mc ms k n pc lv (.int y :: .int x :: st) w Q := by
  intro p e R s m args below meth c Z H locs ls A E hR hL hl hk hn
  exact lv_icmp_ne A.1 A.2.1 hdg ht (fun hc => kt hc p e R s m args below meth c Z H locs ls A E hR hL hl hk hn) (fun hc => kf hc p e R s m args below meth c Z H locs ls A E hR hL hl hk hn)
theorem x_if_lt {x : Int32} {off : Int} {tgt : Nat} (hdg : decode M.2.1 pc = .ok (.ifCond .lt off, 3)) (ht : (pc : Int) + off = (tgt : Int)) (kt : x < 0 → X G l M d mc ms k n tgt lv st w Q) (kf : ¬ x < 0 → X G l M d mc ms k n (pc + 3) lv st w Q) : X G l M d mc ms k n pc lv (.int x :: st) w Q := by
  intro p e R s m args below meth c Z H locs ls A E hR hL hl hk hn
  exact lv_if_lt A.1 A.2.1 hdg ht (fun hc => kt hc p e R s m args below meth c Z H locs ls A E hR hL hl hk hn) (fun hc => kf hc p e R s m args below meth c Z H locs ls A E hR hL hl hk hn)
theorem x_icmp_lt {x y : Int32} {off : Int} {tgt : Nat} (hdg : decode M.2.1 pc = .ok (.if_icmp .lt off, 3)) (ht : (pc : Int) + off = (tgt : Int)) (kt : x < y → X G l M d mc ms k n tgt lv st w Q) (kf : ¬ x < y → X G l M d mc ms k n (pc + 3) lv st w Q) : X G l M d mc ms k n pc lv (.int y :: .int x :: st) w Q := by
  intro p e R s m args below meth c Z H locs ls A E hR hL hl hk hn
  exact lv_icmp_lt A.1 A.2.1 hdg ht (fun hc => kt hc p e R s m args below meth c Z H locs ls A E hR hL hl hk hn) (fun hc => kf hc p e R s m args below meth c Z H locs ls A E hR hL hl hk hn)
theorem x_if_ge {x : Int32} {off : Int} {tgt : Nat} (hdg : decode M.2.1 pc = .ok (.ifCond .ge off, 3)) (ht : (pc : Int) + off = (tgt : Int)) (kt : 0 ≤ x → X G l M d mc ms k n tgt lv st w Q) (kf : ¬ 0 ≤ x → X G l M d mc ms k n (pc + 3) lv st w Q) : X G l M d mc ms k n pc lv (.int x :: st) w Q := by
  intro p e R s m args below meth c Z H locs ls A E hR hL hl hk hn
  exact lv_if_ge A.1 A.2.1 hdg ht (fun hc => kt hc p e R s m args below meth c Z H locs ls A E hR hL hl hk hn) (fun hc => kf hc p e R s m args below meth c Z H locs ls A E hR hL hl hk hn)
theorem x_icmp_ge {x y : Int32} {off : Int} {tgt : Nat} (hdg : decode M.2.1 pc = .ok (.if_icmp .ge off, 3)) (ht : (pc : Int) + off = (tgt : Int)) (kt : y ≤ x → X G l M d mc ms k n tgt lv st w Q) (kf : ¬ y ≤ x → X G l M d mc ms k n (pc + 3) lv st w Q) : X G l M d mc ms k n pc lv (.int y :: .int x :: st) w Q := by
  intro p e R s m args below meth c Z H locs ls A E hR hL hl hk hn
  exact lv_icmp_ge A.1 A.2.1 hdg ht (fun hc => kt hc p e R s m args below meth c Z H locs ls A E hR hL hl hk hn) (fun hc => kf hc p e R s m args below meth c Z H locs ls A E hR hL hl hk hn)
theorem x_if_gt {x : Int32} {off : Int} {tgt : Nat} (hdg : decode M.2.1 pc = .ok (.ifCond .gt off, 3)) (ht : (pc : Int) + off = (tgt : Int)) (kt : 0 < x → X G l M d mc ms k n tgt lv st w Q) (kf : ¬ 0 < x → X G l M d mc ms k n (pc + 3) lv st w Q) : X G l M d mc ms k n pc lv (.int x :: st) w Q := by
  intro p e R s m args below meth c Z H locs ls A E hR hL hl hk hn
  exact lv_if_gt A.1 A.2.1 hdg ht (fun hc => kt hc p e R s m args below meth c Z H locs ls A E hR hL hl hk hn) (fun hc => kf hc p e R s m args below meth c Z H locs ls A E hR hL hl hk hn)
theorem x_icmp_gt {x y : Int32} {off : Int} {tgt : Nat} (hdg : decode M.2.1 pc = .ok (.if_icmp .gt off, 3)) (ht : (pc : Int) + off = (tgt : Int)) (kt : y < x → X G l M d mc ms k n tgt lv st w Q) (kf : ¬ y < x → X G l M d mc ms k n (pc + 3) lv st w Q) : X G l M d mc ms k n pc lv (.int y :: .int x :: st) w Q := by
  intro p e R s m args below meth c Z H locs ls A E hR hL hl hk hn
  exact lv_icmp_gt A.1 A.2.1 hdg ht (fun hc => kt hc p e R s m args below meth c Z H locs ls A E hR hL hl hk hn) (fun hc => kf hc p e R s m args below meth c Z H locs ls A E hR hL hl hk hn)
theorem x_if_le {x : Int32} {off : Int} {tgt : Nat} (hdg : decode M.2.1 pc = .ok (.ifCond .le off, 3)) (ht : (pc : Int) + off = (tgt : Int)) (kt : x ≤ 0 → X G l M d mc ms k n tgt lv st w Q) (kf : ¬ x ≤ 0 → X G l M d mc ms k n (pc + 3) lv st w Q) : X G l M d mc ms k n pc lv (.int x :: st) w Q := by
  intro p e R s m args below meth c Z H locs ls A E hR hL hl hk hn
  exact lv_if_le A.1 A.2.1 hdg ht (fun hc => kt hc p e R s m args below meth c Z H locs ls A E hR hL hl hk hn) (fun hc => kf hc p e R s m args below meth c Z H locs ls A E hR hL hl hk hn)
theorem x_icmp_le {x y : Int32} {off : Int} {tgt : Nat} (hdg : decode M.2.1 pc = .ok (.if_icmp .le off, 3)) (ht : (pc : Int) + off = (tgt : Int)) (kt : x ≤ y → X G l M d mc ms k n tgt lv st w Q) (kf : ¬ x ≤ y → X G l M d mc ms k n (pc + 3) lv st w Q) : X G l M d mc ms k n pc lv (.int y :: .int x :: st) w Q := by
  intro p e R s m args below meth c Z H locs ls A E hR hL hl hk hn
  exact lv_icmp_le A.1 A.2.1 hdg ht (fun hc => kt hc p e R s m args below meth c Z H locs ls A E hR hL hl hk hn) (fun hc => kf hc p e R s m args below meth c Z H locs ls A E hR hL hl hk hn)
theorem x_iload_n {f : Fin 4} {i : Nat} {x : Int32} (q : Nat) (hdg : decode M.2.1 pc = .ok (.iload_n f, 1)) (hi : (f : Nat) = i) (hq : lv[q]? = some (i, .int x)) (kk : X G l M d mc ms k n (pc + 1) lv (.int x :: st) w Q) : X G l M d mc ms k n pc lv st w Q := by
  intro p e R s m args below meth c Z H locs ls A E hR hL hl hk hn
  exact lv_iload_n A.1 A.2.1 hdg hi (lv_at hl q hq) (kk p e R s m args below meth c Z H locs ls A E hR hL hl hk hn)
theorem x_iload {i : Nat} {x : Int32} (q : Nat) (hdg : decode M.2.1 pc = .ok (.iload i, 2)) (hq : lv[q]? = some (i, .int x)) (kk : X G l M d mc ms k n (pc + 2) lv (.int x :: st) w Q) : X G l M d mc ms k n pc lv st w Q := by
  intro p e R s m args below meth c Z H locs ls A E hR hL hl hk hn
  exact lv_iload A.1 A.2.1 hdg (lv_at hl q hq) (kk p e R s m args below meth c Z H locs ls A E hR hL hl hk hn)
theorem x_lload_n {f : Fin 4} {i : Nat} {x : Int64} (q : Nat) (hdg : decode M.2.1 pc = .ok (.lload_n f, 1)) (hi : (f : Nat) = i) (hq : lv[q]? = some (i, .long x)) (kk : X G l M d mc ms k n (pc + 1) lv (.long x :: st) w Q) : X G l M d mc ms k n pc lv st w Q := by
  intro p e R s m args below meth c Z H locs ls A E hR hL hl hk hn
  exact lv_lload_n A.1 A.2.1 hdg hi (lv_at hl q hq) (kk p e R s m args below meth c Z H locs ls A E hR hL hl hk hn)
theorem x_lload {i : Nat} {x : Int64} (q : Nat) (hdg : decode M.2.1 pc = .ok (.lload i, 2)) (hq : lv[q]? = some (i, .long x)) (kk : X G l M d mc ms k n (pc + 2) lv (.long x :: st) w Q) : X G l M d mc ms k n pc lv st w Q := by
  intro p e R s m args below meth c Z H locs ls A E hR hL hl hk hn
  exact lv_lload A.1 A.2.1 hdg (lv_at hl q hq) (kk p e R s m args below meth c Z H locs ls A E hR hL hl hk hn)
theorem x_aload_n {f : Fin 4} {i : Nat} {x : Nat} (q : Nat) (hdg : decode M.2.1 pc = .ok (.aload_n f, 1)) (hi : (f : Nat) = i) (hq : lv[q]? = some (i, .ref x)) (kk : X G l M d mc ms k n (pc + 1) lv (.ref x :: st) w Q) : X G l M d mc ms k n pc lv st w Q := by
  intro p e R s m args below meth c Z H locs ls A E hR hL hl hk hn
  exact lv_aload_n A.1 A.2.1 hdg hi (lv_at hl q hq) (kk p e R s m args below meth c Z H locs ls A E hR hL hl hk hn)
theorem x_aload {i : Nat} {x : Nat} (q : Nat) (hdg : decode M.2.1 pc = .ok (.aload i, 2)) (hq : lv[q]? = some (i, .ref x)) (kk : X G l M d mc ms k n (pc + 2) lv (.ref x :: st) w Q) : X G l M d mc ms k n pc lv st w Q := by
  intro p e R s m args below meth c Z H locs ls A E hR hL hl hk hn
  exact lv_aload A.1 A.2.1 hdg (lv_at hl q hq) (kk p e R s m args below meth c Z H locs ls A E hR hL hl hk hn)
theorem x_istore_n {f : Fin 4} {i : Nat} {x : Int32} {lv2 : List (Nat × Value)} (hdg : decode M.2.1 pc = .ok (.istore_n f, 1)) (hi : (f : Nat) = i) (hlt : i < M.2.2.1) (he : (i, Value.int x) :: lv.filter (fun q => !(q.1 == i) && !(q.1 + 1 == i && q.2.category == 2)) = lv2) (kk : X G l M d mc ms k n (pc + 1) lv2 st w Q) : X G l M d mc ms k n pc lv (.int x :: st) w Q := by
  intro p e R s m args below meth c Z H locs ls A E hR hL hl hk hn
  exact lv_istore_n A.1 A.2.1 hdg hi hl hlt he (fun ls2 hl2 => kk p e R s m args below meth c Z H locs ls2 A E hR hL hl2 hk hn)
theorem x_istore {i : Nat} {x : Int32} {lv2 : List (Nat × Value)} (hdg : decode M.2.1 pc = .ok (.istore i, 2)) (hlt : i < M.2.2.1) (he : (i, Value.int x) :: lv.filter (fun q => !(q.1 == i) && !(q.1 + 1 == i && q.2.category == 2)) = lv2) (kk : X G l M d mc ms k n (pc + 2) lv2 st w Q) : X G l M d mc ms k n pc lv (.int x :: st) w Q := by
  intro p e R s m args below meth c Z H locs ls A E hR hL hl hk hn
  exact lv_istore A.1 A.2.1 hdg hl hlt he (fun ls2 hl2 => kk p e R s m args below meth c Z H locs ls2 A E hR hL hl2 hk hn)
theorem x_lstore_n {f : Fin 4} {i : Nat} {x : Int64} {lv2 : List (Nat × Value)} (hdg : decode M.2.1 pc = .ok (.lstore_n f, 1)) (hi : (f : Nat) = i) (hlt : i + 1 < M.2.2.1) (he : (i, Value.long x) :: lv.filter (fun q => !(q.1 == i) && (!(q.1 == i + 1) && !(q.1 + 1 == i && q.2.category == 2))) = lv2) (kk : X G l M d mc ms k n (pc + 1) lv2 st w Q) : X G l M d mc ms k n pc lv (.long x :: st) w Q := by
  intro p e R s m args below meth c Z H locs ls A E hR hL hl hk hn
  exact lv_lstore_n A.1 A.2.1 hdg hi hl hlt he (fun ls2 hl2 => kk p e R s m args below meth c Z H locs ls2 A E hR hL hl2 hk hn)
theorem x_lstore {i : Nat} {x : Int64} {lv2 : List (Nat × Value)} (hdg : decode M.2.1 pc = .ok (.lstore i, 2)) (hlt : i + 1 < M.2.2.1) (he : (i, Value.long x) :: lv.filter (fun q => !(q.1 == i) && (!(q.1 == i + 1) && !(q.1 + 1 == i && q.2.category == 2))) = lv2) (kk : X G l M d mc ms k n (pc + 2) lv2 st w Q) : X G l M d mc ms k n pc lv (.long x :: st) w Q := by
  intro p e R s m args below meth c Z H locs ls A E hR hL hl hk hn
  exact lv_lstore A.1 A.2.1 hdg hl hlt he (fun ls2 hl2 => kk p e R s m args below meth c Z H locs ls2 A E hR hL hl2 hk hn)
theorem x_astore_n {f : Fin 4} {i : Nat} {x : Nat} {lv2 : List (Nat × Value)} (hdg : decode M.2.1 pc = .ok (.astore_n f, 1)) (hi : (f : Nat) = i) (hlt : i < M.2.2.1) (he : (i, Value.ref x) :: lv.filter (fun q => !(q.1 == i) && !(q.1 + 1 == i && q.2.category == 2)) = lv2) (kk : X G l M d mc ms k n (pc + 1) lv2 st w Q) : X G l M d mc ms k n pc lv (.ref x :: st) w Q := by
  intro p e R s m args below meth c Z H locs ls A E hR hL hl hk hn
  exact lv_astore_n A.1 A.2.1 hdg hi hl hlt he (fun ls2 hl2 => kk p e R s m args below meth c Z H locs ls2 A E hR hL hl2 hk hn)
theorem x_astore {i : Nat} {x : Nat} {lv2 : List (Nat × Value)} (hdg : decode M.2.1 pc = .ok (.astore i, 2)) (hlt : i < M.2.2.1) (he : (i, Value.ref x) :: lv.filter (fun q => !(q.1 == i) && !(q.1 + 1 == i && q.2.category == 2)) = lv2) (kk : X G l M d mc ms k n (pc + 2) lv2 st w Q) : X G l M d mc ms k n pc lv (.ref x :: st) w Q := by
  intro p e R s m args below meth c Z H locs ls A E hR hL hl hk hn
  exact lv_astore A.1 A.2.1 hdg hl hlt he (fun ls2 hl2 => kk p e R s m args below meth c Z H locs ls2 A E hR hL hl2 hk hn)
theorem x_iinc {i : Nat} {z : Int} {x v : Int32} {lv2 : List (Nat × Value)} (q : Nat) (hdg : decode M.2.1 pc = .ok (.iinc i z, 3)) (hq : lv[q]? = some (i, .int x)) (hv : x + Int32.ofInt z = v) (hlt : i < M.2.2.1) (he : (i, Value.int v) :: lv.filter (fun q => !(q.1 == i) && !(q.1 + 1 == i && q.2.category == 2)) = lv2) (kk : X G l M d mc ms k n (pc + 3) lv2 st w Q) : X G l M d mc ms k n pc lv st w Q := by
  intro p e R s m args below meth c Z H locs ls A E hR hL hl hk hn
  exact lv_iinc A.1 A.2.1 hdg hl hq hv hlt he (fun ls2 hl2 => kk p e R s m args below meth c Z H locs ls2 A E hR hL hl2 hk hn)
theorem x_sub {lv2 : List (Nat × Value)} (qs : List Nat) (he : lv_pick lv qs = lv2) (kk : X G l M d mc ms k n pc lv2 st w Q) : X G l M d mc ms k n pc lv st w Q := by
  intro p e R s m args below meth c Z H locs ls A E hR hL hl hk hn
  exact kk p e R s m args below meth c Z H locs ls A E hR hL (lv_sub hl qs he) hk hn
theorem x_lcmp {x y : Int64} (hdg : decode M.2.1 pc = .ok (.lcmp, 1)) (kk : X G l M d mc ms k n (pc + 1) lv (.int (lg_cmp x y) :: st) w Q) : X G l M d mc ms k n pc lv (.long y :: .long x :: st) w Q := by
  intro p e R s m args below meth c Z H locs ls A E hR hL hl hk hn
  exact W.lcmp A.1 A.2.1 hdg (kk p e R s m args below meth c Z H locs ls A E hR hL hl hk hn)
theorem x_ldc {i : Nat} {v : Int32} (hw : Cond.constant M.1.cls i v ∈ tG) (hdg : decode M.2.1 pc = .ok (.ldc i, 2)) (kk : X G l M d mc ms k n (pc + 2) lv (.int v :: st) w Q) : X G l M d mc ms k n pc lv st w Q := by
  intro p e R s m args below meth c Z H locs ls A E hR hL hl hk hn
  exact lv_ldc A.1 A.2.1 A.2.2.2.1 (A.2.2.2.2.1 _ hw) hdg (kk p e R s m args below meth c Z H locs ls A E hR hL hl hk hn)
theorem x_ldcw {i : Nat} {v : Int32} (hw : Cond.constant M.1.cls i v ∈ tG) (hdg : decode M.2.1 pc = .ok (.ldc_w i, 3)) (kk : X G l M d mc ms k n (pc + 3) lv (.int v :: st) w Q) : X G l M d mc ms k n pc lv st w Q := by
  intro p e R s m args below meth c Z H locs ls A E hR hL hl hk hn
  exact lv_ldcw A.1 A.2.1 A.2.2.2.1 (A.2.2.2.2.1 _ hw) hdg (kk p e R s m args below meth c Z H locs ls A E hR hL hl hk hn)
theorem x_ldc2 {i : Nat} {v : Int64} (hw : Cond.constantLong M.1.cls i v ∈ tG) (hdg : decode M.2.1 pc = .ok (.ldc2_w i, 3)) (kk : X G l M d mc ms k n (pc + 3) lv (.long v :: st) w Q) : X G l M d mc ms k n pc lv st w Q := by
  intro p e R s m args below meth c Z H locs ls A E hR hL hl hk hn
  exact lv_ldc2 A.1 A.2.1 A.2.2.2.1 (A.2.2.2.2.1 _ hw) hdg (kk p e R s m args below meth c Z H locs ls A E hR hL hl hk hn)
theorem x_iret {v : Int32} (hr : RetAt M pc (some (.int v))) (hQ : Q (some (.int v)) w) : X G l M d mc ms k n pc lv [.int v] w Q := by
  intro p e R s m args below meth c Z H locs ls A E hR hL hl hk hn
  exact E (some (.int v)) w H locs k n pc ls hQ hR hL hk hn hr
theorem x_lret {v : Int64} (hr : RetAt M pc (some (.long v))) (hQ : Q (some (.long v)) w) : X G l M d mc ms k n pc lv [.long v] w Q := by
  intro p e R s m args below meth c Z H locs ls A E hR hL hl hk hn
  exact E (some (.long v)) w H locs k n pc ls hQ hR hL hk hn hr
theorem x_vret (hr : RetAt M pc none) (hQ : Q none w) : X G l M d mc ms k n pc lv [] w Q := by
  intro p e R s m args below meth c Z H locs ls A E hR hL hl hk hn
  exact E none w H locs k n pc ls hQ hR hL hk hn hr
theorem x_topi {x : Int32} (kk : ∀ y : Int32, y = x → X G l M d mc ms k n pc lv (.int y :: st) w Q) : X G l M d mc ms k n pc lv (.int x :: st) w Q := kk x rfl
theorem x_topl {x : Int64} (kk : ∀ y : Int64, y = x → X G l M d mc ms k n pc lv (.long y :: st) w Q) : X G l M d mc ms k n pc lv (.long x :: st) w Q := kk x rfl
end
