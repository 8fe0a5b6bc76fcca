/-! reading a text: the letter at a place is L k, 0 behind the end; a result is: good, the place, the code -/
def isD (c : Nat) : Bool := decide (48 ≤ c) && decide (c ≤ 57)
def isNm (c : Nat) : Bool := decide (120 ≤ c) && decide (c ≤ 122)
def dgN (L : Nat → Nat) : Nat → Nat → Nat
  | 0, _ => 0
  | m + 1, k => if isD (L k) then dgN L m (k + 1) + 1 else 0
def accV (L : Nat → Nat) : Nat → Nat → Nat → Nat
  | 0, _, a => a
  | m + 1, k, a => accV L m (k + 1) (a * 10 + (L k - 48))
def frV (L : Nat → Nat) : Nat → Nat → Nat → Nat → Nat
  | 0, _, a, _ => a
  | m + 1, k, a, w => frV L m (k + 1) (a + (L k - 48) * w) (w / 10)
abbrev RP := Bool × Nat × List (Nat × Nat)
def numP (L : Nat → Nat) (k : Nat) : RP := if L (k + dgN L 4 k) = 46 then (if dgN L 3 (k + dgN L 4 k + 1) = 0 then (false, k + dgN L 4 k + 1, []) else (true, k + dgN L 4 k + 1 + dgN L 3 (k + dgN L 4 k + 1), [(0, frV L (dgN L 3 (k + dgN L 4 k + 1)) (k + dgN L 4 k + 1) (accV L (dgN L 4 k) k 0 * 1000) 100)])) else (true, k + dgN L 4 k, [(0, accV L (dgN L 4 k) k 0 * 1000)])
def namP (L : Nat → Nat) (k : Nat) : RP := if L (k + 1) = 39 then (if L (k + 2) = 64 then (if 48 ≤ L (k + 3) ∧ L (k + 3) ≤ 50 then (true, k + 4, [(1, 13 + (L (k + 3) - 48) * 3 + (L k - 120))]) else (false, k + 3, [])) else (false, k + 2, [])) else (if L (k + 1) = 64 then (if 48 ≤ L (k + 2) ∧ L (k + 2) ≤ 50 then (true, k + 3, [(1, 4 + (L (k + 2) - 48) * 3 + (L k - 120))]) else (false, k + 2, [])) else (true, k + 1, [(1, L k - 120)]))
def bareP (S : Nat → RP) (o : Bool) (L : Nat → Nat) (k : Nat) : RP :=
  if isD (L k) then numP L k else if isNm (L k) then namP L k else if L k = 116 then (true, k + 1, [(1, 3)])
  else if L k = 109 then (if L (k + 1) = 105 ∨ L (k + 1) = 97 then (if L (k + 2) = (if L (k + 1) = 105 then 110 else 120) then (if o = true ∧ L (k + 3) = 40 then (if (S (k + 4)).1 then (if L (S (k + 4)).2.1 = 44 then (if (S ((S (k + 4)).2.1 + 1)).1 then (if L (S ((S (k + 4)).2.1 + 1)).2.1 = 41 then (true, (S ((S (k + 4)).2.1 + 1)).2.1 + 1, (S (k + 4)).2.2 ++ (S ((S (k + 4)).2.1 + 1)).2.2 ++ [(if L (k + 1) = 105 then 7 else 8, 0)]) else (false, (S ((S (k + 4)).2.1 + 1)).2.1, [])) else (false, (S ((S (k + 4)).2.1 + 1)).2.1, [])) else (false, (S (k + 4)).2.1, [])) else (false, (S (k + 4)).2.1, [])) else (false, k + 3, [])) else (false, k + 2, [])) else (false, k + 1, []))
  else if o = true ∧ L k = 40 then (if (S (k + 1)).1 then (if L (S (k + 1)).2.1 = 41 then (true, (S (k + 1)).2.1 + 1, (S (k + 1)).2.2) else (false, (S (k + 1)).2.1, [])) else (false, (S (k + 1)).2.1, [])) else (false, k, [])
def ngN (L : Nat → Nat) : Nat → Nat → Nat
  | 0, _ => 0
  | m + 1, k => if L k = 45 then ngN L m (k + 1) + 1 else 0
def negs (g : Nat) : List (Nat × Nat) := List.replicate g (6, 0)
def unitP (S : Nat → RP) (o : Bool) (L : Nat → Nat) (k : Nat) : RP := if (bareP S o L (k + ngN L 80 k)).1 then (true, (bareP S o L (k + ngN L 80 k)).2.1, (bareP S o L (k + ngN L 80 k)).2.2 ++ negs (ngN L 80 k)) else (false, (bareP S o L (k + ngN L 80 k)).2.1, [])
/-- a row of parts with signs between them: a and b are the signs, ka and kb their kinds -/
def rowP (U : Nat → RP) (L : Nat → Nat) (a b ka kb : Nat) : Nat → Nat → List (Nat × Nat) → RP
  | 0, k, c => (true, k, c)
  | m + 1, k, c => if L k = a ∨ L k = b then (if (U (k + 1)).1 then rowP U L a b ka kb m (U (k + 1)).2.1 (c ++ (U (k + 1)).2.2 ++ [(if L k = a then ka else kb, 0)]) else (false, (U (k + 1)).2.1, [])) else (true, k, c)
def termP (S : Nat → RP) (o : Bool) (L : Nat → Nat) (k : Nat) : RP := if (unitP S o L k).1 then rowP (unitP S o L) L 42 47 4 5 80 (unitP S o L k).2.1 (unitP S o L k).2.2 else (false, (unitP S o L k).2.1, [])
def sumF (S : Nat → RP) (o : Bool) (L : Nat → Nat) (k : Nat) : RP := if (termP S o L k).1 then rowP (termP S o L) L 43 45 2 3 80 (termP S o L k).2.1 (termP S o L k).2.2 else (false, (termP S o L k).2.1, [])
def sumP (L : Nat → Nat) : Nat → Nat → RP
  | 0 => sumF (fun k => (false, k, [])) false L
  | d + 1 => sumF (sumP L d) true L
/-! the state of the class's text while it reads -/
def bitI (b : Int32) (e : Nat × Nat) : Int32 := if e.1 = 1 then b ||| ((1 : Int32) <<< (nI e.2 &&& 31)) else b
def obI (c : List (Nat × Nat)) : Int32 := c.foldl bitI 0
def LOK (L : Nat → Nat) (len : Nat) : Prop := len ≤ 80 ∧ (∀ k, k < len → 33 ≤ L k ∧ L k ≤ 126) ∧ ∀ k, len ≤ k → L k = 0
def AtF (s : RT) (L : Nat → Nat) (len k : Nat) : Prop := s.2.2 1 = nI len ∧ (∀ i, i < len → s.1 1 i = nI (L i)) ∧ s.2.2 2 = nI k
def AtT (s : RT) (L : Nat → Nat) (len k : Nat) (c : List (Nat × Nat)) : Prop := AtF s L len k ∧ CodeX (s.1 2) 0 c ∧ s.2.2 4 = nI c.length ∧ s.2.2 5 = obI c
theorem LOK_lt {L : Nat → Nat} {len k : Nat} (h : LOK L len) (q : L k ≠ 0) : k < len := by
  rcases Nat.lt_or_ge k len with w | w
  · exact w
  · exact absurd (h.2.2 k w) q
theorem LOK_126 {L : Nat → Nat} {len : Nat} (h : LOK L len) (k : Nat) : L k ≤ 126 := by
  rcases Nat.lt_or_ge k len with w | w
  · exact (h.2.1 k w).2
  · rw [h.2.2 k w]; omega
theorem n_sign {s : RT} {L : Nat → Nat} {len k : Nat} {K : Int32 → Prop} (hL : LOK L len) (hA : AtF s L len k) (hk : k < 1000) (h : K (nI (L k))) : wp_X8_sign s K := by
  have h80 := hL.1
  unfold wp_X8_sign
  rw [hA.1, hA.2.2]
  refine ⟨fun q => ?_, fun q => n_pick (by decide) ?_⟩
  · have := (nI_leI (by omega) (by omega)).mp q
    rw [hL.2.2 k this] at h; exact h
  · have hlt : k < len := by
      rcases Nat.lt_or_ge k len with w | w
      · exact w
      · exact absurd (nI_le w (by omega)) q
    rw [pk_n (by decide) (by omega), hA.2.1 k hlt]; exact h
theorem AtF_go {s : RT} {L : Nat → Nat} {len k : Nat} (hA : AtF s L len k) : AtF (rS s 2 (nI (k + 1))) L len (k + 1) := ⟨hA.1, hA.2.1, rfl⟩
theorem AtT_go {s : RT} {L : Nat → Nat} {len k : Nat} {c : List (Nat × Nat)} (hA : AtT s L len k c) : AtT (rS s 2 (nI (k + 1))) L len (k + 1) c := ⟨AtF_go hA.1, hA.2.1, hA.2.2.1, hA.2.2.2⟩
theorem n_accept {s : RT} {L : Nat → Nat} {len k a : Nat} {c : List (Nat × Nat)} {K : Int32 → RT → Prop} (hL : LOK L len) (hA : AtT s L len k c) (hk : k < 1000) (ha : a < 1000) (h1 : L k = a → ∀ s', AtT s' L len (k + 1) c → K 1 s') (h0 : L k ≠ a → K 0 s) : wp_X8_accept s (nI a) K := by
  have h126 := LOK_126 hL k
  refine n_sign hL hA.1 hk ⟨fun q s3 h3 => ?_, fun q => h0 (fun e => q (by rw [e]))⟩
  rw [hA.1.2.2, nI_1] at h3
  subst h3
  exact h1 ((nI_eq (by omega) (by omega)).mp q) _ (AtT_go hA)
theorem wi_isD {c : Nat} (h : c ≤ 126) : wi (nI c) 48 57 = isD c := by
  unfold wi isD
  rw [nI_int (by omega), show (48 : Int32).toInt = 48 from rfl, show (57 : Int32).toInt = 57 from rfl]
  congr 1
  · apply decide_eq_decide.mpr; omega
  · apply decide_eq_decide.mpr; omega
theorem wi_isNm {c : Nat} (h : c ≤ 126) : wi (nI c) 120 122 = isNm c := by
  unfold wi isNm
  rw [nI_int (by omega), show (120 : Int32).toInt = 120 from rfl, show (122 : Int32).toInt = 122 from rfl]
  congr 1
  · apply decide_eq_decide.mpr; omega
  · apply decide_eq_decide.mpr; omega
theorem n_isDigitX {c : Nat} {K : Int32 → Prop} (h : c ≤ 126) (h1 : K (b2 (isD c))) : wp_X8_isDigit (nI c) K := n_isWithin (by rw [wi_isD h]; exact ⟨b2_nar _, h1⟩)
theorem CodeX_app {f : Nat → Int32} : ∀ {c : List (Nat × Nat)} {b : Nat} {e : Nat × Nat}, CodeX f b c → CodeX (upd f (b + c.length) (nI (e.2 * 16 + e.1))) b (c ++ [e]) := by
  intro c
  induction c with
  | nil => intro b e h; exact ⟨by unfold upd; simp, trivial⟩
  | cons a r ih =>
    intro b e h
    refine ⟨?_, ?_⟩
    · unfold upd
      simp only [List.length_cons]
      rw [if_neg (by omega)]
      exact h.1
    · have := ih (e := e) h.2
      simp only [List.length_cons]
      rw [show b + (r.length + 1) = b + 1 + r.length by omega]
      exact this
theorem or_nI (a b : Nat) : nI a ||| nI b = nI (a ||| b) := by
  unfold nI
  apply Int32.toBitVec_inj.mp
  rw [Int32.toBitVec_or]
  exact (BitVec.ofNat_or ..).symm
theorem shl_or {d k : Nat} (hd : d < 100000000) (hk : k < 16) : ((nI d <<< ((4 : Int32) &&& 31)) ||| nI k) = nI (d * 16 + k) := by
  rw [pk_shlN (n := d) _ 4 (by decide) (by omega), or_nI, show (2 : Nat) ^ 4 = 16 from rfl]
  have := Nat.two_pow_add_eq_or_of_lt (i := 4) (b := k) (by omega) d
  rw [show (2 : Nat) ^ 4 = 16 from rfl, Nat.mul_comm 16 d] at this
  rw [this]
theorem n_emit {s : RT} {L : Nat → Nat} {len k kd d : Nat} {c : List (Nat × Nat)} {K : RT → Prop} (hA : AtT s L len k c) (hc : c.length < 80) (hk : kd < 16) (h1 : kd ≠ 1) (hd : d < 100000000) (h : ∀ s', AtT s' L len k (c ++ [(kd, d)]) → K s') : wp_X8_emit s (nI kd) (nI d) K := by
  unfold wp_X8_emit
  rw [hA.2.2.1, shl_or hd hk]
  refine ⟨fun q => ?_, fun _ => n_put (by decide) ?_⟩
  · have := (nI_leI (a := 80) (by decide) (by omega)).mp q
    omega
  · rw [pt_n (by decide) hc]
    intro s3 h3 s4 h4
    subst h3; subst h4
    refine h _ ⟨hA.1, ?_, ?_, ?_⟩
    · have := CodeX_app (e := (kd, d)) hA.2.1
      rw [Nat.zero_add] at this
      exact this
    · show s.2.2 4 + 1 = _
      rw [hA.2.2.1, nI_1, List.length_append]; rfl
    · show s.2.2 5 = _
      rw [hA.2.2.2]
      unfold obI
      rw [List.foldl_append]
      show _ = bitI _ (kd, d)
      unfold bitI
      rw [if_neg h1]
theorem n_emitOp {s : RT} {L : Nat → Nat} {len k d : Nat} {c : List (Nat × Nat)} {K : RT → Prop} (hA : AtT s L len k c) (hc : c.length < 80) (hd : d < 22) (h : ∀ s', AtT s' L len k (c ++ [(1, d)]) → K s') : wp_X8_emitOperand s (nI d) K := by
  unfold wp_X8_emitOperand wp_X8_emit
  rw [hA.2.2.1, show (1 : Int32) = nI 1 from rfl, shl_or (by omega) (by omega)]
  refine ⟨fun q => ?_, fun _ => n_put (by decide) ?_⟩
  · have := (nI_leI (a := 80) (by decide) (by omega)).mp q
    omega
  · rw [pt_n (by decide) hc]
    intro s3 h3 s4 h4 s5 h5
    subst h3; subst h4; subst h5
    refine h _ ⟨hA.1, ?_, ?_, ?_⟩
    · have := CodeX_app (e := (1, d)) hA.2.1
      rw [Nat.zero_add] at this
      exact this
    · show s.2.2 4 + 1 = _
      rw [hA.2.2.1, nI_1, List.length_append]; rfl
    · show s.2.2 5 ||| _ = _
      rw [hA.2.2.2]
      unfold obI
      rw [List.foldl_append]
      show _ = bitI _ (1, d)
      unfold bitI
      rw [if_pos rfl]
      rfl
