/-! a problem, apart from how either program holds it -/
abbrev PB : Type := ((Nat → Nat → Nat) × (Nat → Nat)) × ((Nat → Int) × (Nat → Int)) × ((Nat → Nat) × (Nat → Nat → Int32) × (Nat → Nat → Int32)) × (Nat × Nat × Nat)
def bL (P : PB) : Nat → Nat → Nat := P.1.1
def bl (P : PB) : Nat → Nat := P.1.2
def bc (P : PB) : Nat → Int := P.2.1.1
def bp (P : PB) : Nat → Int := P.2.1.2
def bh (P : PB) : Nat → Nat := P.2.2.1.1
def bT (P : PB) : Nat → Nat → Int32 := P.2.2.1.2.1
def bV (P : PB) : Nat → Nat → Int32 := P.2.2.1.2.2
def bS (P : PB) : Nat := P.2.2.2.1
def bR (P : PB) : Nat := P.2.2.2.2.1
def bO (P : PB) : Nat := P.2.2.2.2.2
def cd (P : PB) (v : Nat) : List (Nat × Nat) := (sumP (bL P v) 6 0).2.2
def TxOK (L : Nat → Nat) (len : Nat) : Prop := LOK L len ∧ (sumP L 6 0).1 = true ∧ (sumP L 6 0).2.1 = len
def POKp (P : PB) : Prop := (∀ v, v < 3 → TxOK (bL P v) (bl P v)) ∧ LagsOK (bc P) (bp P) ∧ HOK (bh P) (bT P) (bV P) ∧ (20 ≤ bS P ∧ bS P ≤ 500) ∧ bR P ≤ 4 ∧ bO P ≤ 3
def usP (P : PB) (d : Nat) : Prop := ∃ v, v < 3 ∧ usT (bL P v) 0 (bl P v) d
/-- the code that the class has of a text: the text's, or none for a new object's 0 -/
def CDX (s : RT) (v : Nat) (c : List (Nat × Nat)) : Prop := (s.1 3 v = nI c.length ∧ CodeX (s.1 2) (v * 80) c ∨ s.1 3 v = nI 0 ∧ c = [(0, 0)]) ∧ s.1 4 v = obI c
def SXp (s : RT) (P : PB) : Prop := (∀ v, v < 3 → CDX s v (cd P v)) ∧ (∀ d, d < 3 → (s.1 6 d).toInt = bc P d) ∧ (∀ d, d < 3 → (s.1 7 d).toInt = bp P d) ∧ HX s (bh P) (bT P) (bV P) ∧ s.1 12 0 = nI (bS P) ∧ s.1 12 1 = nI (bR P) ∧ s.1 12 2 = nI (bO P)
theorem wf_opB : ∀ {c : List (Nat × Nat)} {h : Nat}, wfC c h → opB c := by
  intro c
  induction c with
  | nil => intro h _ e he; cases he
  | cons a r ih =>
    intro h hw e he h1
    have hw2 : a.2 < 100000000 ∧ ((a.1 = 0 ∧ wfC r (h + 1)) ∨ (a.1 = 1 ∧ a.2 < 22 ∧ wfC r (h + 1)) ∨ (a.1 = 6 ∧ 1 ≤ h ∧ wfC r h) ∨ (isBin a.1 ∧ 2 ≤ h ∧ wfC r (h - 1))) := hw
    rcases List.mem_cons.mp he with q | q
    · subst q
      rcases hw2.2 with w | w | w | w
      · omega
      · exact w.2.1
      · omega
      · unfold isBin at w; omega
    · rcases hw2.2 with w | w | w | w
      · exact ih w.2 e q h1
      · exact ih w.2.2 e q h1
      · exact ih w.2.2 e q h1
      · exact ih w.2.2 e q h1
theorem tx_okc {L : Nat → Nat} {len : Nat} {env : Nat → Int} (hE : ∀ p, p < 22 → bd2 (env p)) (h : TxOK L len) : OKc env (sumP L 6 0).2.2 := (sum_pr hE h.1 6 0 (by omega) h.2.1).2
theorem tx_wf {L : Nat → Nat} {len : Nat} (h : TxOK L len) : wfC (sumP L 6 0).2.2 0 := by
  have := (tx_okc (env := fun _ => 0) (fun _ _ => ⟨by decide, by decide⟩) h).1 [] 0 rfl
  rw [List.append_nil] at this
  exact this
theorem tx_at {L : Nat → Nat} {len : Nat} (h : TxOK L len) : atP L 0 len := by
  have := (sum_pr (env := fun _ => 0) (fun _ _ => ⟨by decide, by decide⟩) h.1 6 0 (by omega) h.2.1).1
  rw [h.2.2] at this
  exact this
theorem tx_len {L : Nat → Nat} {len : Nat} (h : TxOK L len) : (sumP L 6 0).2.2.length ≤ 80 := by
  have ok := sum_ok h.1 6 0 (by omega) h.2.1
  have := h.1.1
  have := h.2.2
  omega
theorem tx_opB {L : Nat → Nat} {len : Nat} (h : TxOK L len) : opB (sumP L 6 0).2.2 := wf_opB (tx_wf h)
theorem tx_us {L : Nat → Nat} {len d : Nat} (h : TxOK L len) (hd : d < 3) : usT L 0 len d ↔ usC (sumP L 6 0).2.2 d := by
  have := sum_us h.1 6 0 (by omega) h.2.1 d hd
  rw [h.2.2] at this
  exact this
theorem usB_C {c : List (Nat × Nat)} {d : Nat} : usB (obN c) d ↔ usC c d := by
  constructor
  · rintro ⟨p, h1, h2⟩
    obtain ⟨e, a, b, z⟩ := obN_bit.mp h2
    exact ⟨e, a, b, by rw [z]; exact h1⟩
  · rintro ⟨e, a, b, z⟩
    exact ⟨e.2, z, obN_bit.mpr ⟨e, a, b, rfl⟩⟩
theorem usB_or {a b d : Nat} : usB (a ||| b) d ↔ usB a d ∨ usB b d := by
  constructor
  · rintro ⟨p, h1, h2⟩
    rw [Nat.testBit_or, Bool.or_eq_true] at h2
    exact h2.elim (fun z => Or.inl ⟨p, h1, z⟩) (fun z => Or.inr ⟨p, h1, z⟩)
  · rintro (⟨p, h1, h2⟩ | ⟨p, h1, h2⟩)
    · exact ⟨p, h1, by rw [Nat.testBit_or, h2]; rfl⟩
    · exact ⟨p, h1, by rw [Nat.testBit_or, h2, Bool.or_true]⟩
theorem obN_lt {c : List (Nat × Nat)} (h : opB c) : obN c < 2 ^ 22 := by
  refine Nat.lt_pow_two_of_testBit _ (fun i hi => ?_)
  cases q : (obN c).testBit i with
  | false => rfl
  | true =>
    obtain ⟨e, a, b, z⟩ := obN_bit.mp q
    have := h e a b
    omega
def bb (P : PB) : Nat := obN (cd P 0) ||| obN (cd P 1) ||| obN (cd P 2)
theorem bb_lt {P : PB} (h : POKp P) : bb P < 2 ^ 22 := Nat.or_lt_two_pow (Nat.or_lt_two_pow (obN_lt (tx_opB (h.1 0 (by decide)))) (obN_lt (tx_opB (h.1 1 (by decide))))) (obN_lt (tx_opB (h.1 2 (by decide))))
theorem bb_us {P : PB} {d : Nat} (h : POKp P) (hd : d < 3) : usB (bb P) d ↔ usP P d := by
  unfold bb
  rw [usB_or, usB_or, usB_C, usB_C, usB_C]
  have e : ∀ v, v < 3 → (usC (cd P v) d ↔ usT (bL P v) 0 (bl P v) d) := fun v hv => (tx_us (h.1 v hv) hd).symm
  rw [e 0 (by decide), e 1 (by decide), e 2 (by decide)]
  constructor
  · rintro ((z | z) | z)
    · exact ⟨0, by decide, z⟩
    · exact ⟨1, by decide, z⟩
    · exact ⟨2, by decide, z⟩
  · rintro ⟨v, hv, z⟩
    have : v = 0 ∨ v = 1 ∨ v = 2 := by omega
    rcases this with q | q | q
    · subst q; exact Or.inl (Or.inl z)
    · subst q; exact Or.inl (Or.inr z)
    · subst q; exact Or.inr z
theorem bb_bit {P : PB} {p v : Nat} (hv : v < 3) (h : ∃ e, e ∈ cd P v ∧ e.1 = 1 ∧ e.2 = p) : (bb P).testBit p = true := by
  have hb : (obN (cd P v)).testBit p = true := obN_bit.mpr h
  unfold bb
  rw [Nat.testBit_or, Nat.testBit_or]
  have : v = 0 ∨ v = 1 ∨ v = 2 := by omega
  rcases this with q | q | q
  · subst q; rw [hb]; rfl
  · subst q; rw [hb, Bool.or_true]; rfl
  · subst q; rw [hb, Bool.or_true]
theorem n_allOps {s : RT} {P : PB} {K : Int32 → Prop} (hP : POKp P) (hS : SXp s P) (h : K (nI (bb P))) : wp_X5_allOperands s K := n_allOperands (b := fun v => obN (cd P v)) (fun v hv => (hS.1 v hv).2.trans (obI_N (tx_opB (hP.1 v hv)))) h
theorem n_usedX {P : PB} {K : Int32 → Prop} (hP : POKp P) (h : ∀ w, w < 8 → (∀ d, d < 3 → (Ub w d ↔ usP P d)) → K (nI w)) : wp_X9_delaysIn (nI (bb P)) K := n_delaysIn (bb_lt hP) (fun w hw hu => h w hw (fun d hd => (hu d hd).trans (bb_us hP hd)))
theorem sh_p : ∀ p, p < 22 → ((nI p &&& 31).toBitVec.smod 32).toNat = p := by decide +kernel
theorem n_hasBitB {b p : Nat} {K : Int32 → Prop} (hb : b < 2 ^ 22) (hp : p < 22) (h0 : b.testBit p = false → K 0) (h1 : b.testBit p = true → K 1) : wp_X9_hasBit (nI b) (nI p) K := by
  unfold wp_X9_hasBit
  have hd : b / 2 ^ p < 2 ^ 32 := Nat.lt_of_le_of_lt (Nat.div_le_self ..) (by omega)
  have e : ((nI b >>> (nI p &&& 31)) &&& (1 : Int32)) = nI (b / 2 ^ p % 2) := by
    rw [pk_shrN (by omega) _ p (sh_p p hp), pk_andN hd 1 (by decide)]
  rw [e]
  have ht := Nat.testBit_eq_decide_div_mod_eq (x := b) (i := p)
  have h01 : b / 2 ^ p % 2 = 0 ∨ b / 2 ^ p % 2 = 1 := by omega
  refine ⟨fun q => h0 ?_, fun q => h1 ?_⟩
  · rcases h01 with z | z
    · rw [ht, z]; rfl
    · rw [z] at q; exact absurd q (by decide)
  · rcases h01 with z | z
    · rw [z] at q; exact absurd rfl q
    · rw [ht, z]; rfl
/-! the delays in the reference's texts -/
theorem usT_s {L : Nat → Nat} {k d : Nat} : usT L 0 (k + 1) d ↔ usT L 0 k d ∨ (L k = 64 ∧ L (k + 1) = 48 + d) := by
  rw [usT_app (Nat.zero_le k) (Nat.le_succ k)]
  constructor
  · rintro (z | ⟨j, a, b, c⟩)
    · exact Or.inl z
    · have : j = k := by omega
      subst this; exact Or.inr c
  · rintro (z | z)
    · exact Or.inl z
    · exact Or.inr ⟨k, Nat.le_refl k, Nat.lt_succ_self k, z⟩
