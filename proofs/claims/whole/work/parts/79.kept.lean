/-! the kept states -/
def KG (j cn : Nat) (kp : Nat → Option Nat) (kr : Nat → RT) (past : Nat → Int32) : Prop := cn ≤ 4 ∧ ∀ i, i < cn → (∃ b, kp i = some b) ∧ ∃ G, PrG j G ∧ SxG G (kr i) ∧ RwG G (fun q => past (812 * i + q))
theorem KG_mono {j j' cn : Nat} {kp : Nat → Option Nat} {kr : Nat → RT} {past : Nat → Int32} (h : KG j cn kp kr past) (hj : j ≤ j') : KG j' cn kp kr past := ⟨h.1, fun i hi => ⟨(h.2 i hi).1, by obtain ⟨G, a, b⟩ := (h.2 i hi).2; exact ⟨G, PrG_mono a hj, b⟩⟩⟩
/-- what the class's record does -/
def RcX (G : GH) (cn : Nat) (kr : Nat → RT) (ct2 : Int32) (kp2 : Nat → Option Nat) (kr2 : Nat → RT) : Prop := (cn < 4 ∧ ct2 = nI (cn + 1) ∧ (∀ i, i < cn + 1 → ∃ b, kp2 i = some b) ∧ SxG G (kr2 cn) ∧ ∀ i, i < cn → kr2 i = kr i) ∨ (cn = 4 ∧ ct2 = nI 4 ∧ (∀ i, i < 4 → ∃ b, kp2 i = some b) ∧ SxG G (kr2 3) ∧ ∀ i, i < 3 → kr2 i = kr (i + 1))
theorem n_record {j cn : Nat} {ct : Int32} {kp : Nat → Option Nat} {kr : Nat → RT} {past : Nat → Int32} {c : RT} {G : GH} {K : Int32 → (Nat → Option Nat) → (Nat → RT) → Prop} (hG : PrG j G) (hS : SxG G c) (hct : ct = nI cn) (hK : KG j cn kp kr past) (h : ∀ ct2 kp2 kr2, RcX G cn kr ct2 kp2 kr2 → K ct2 kp2 kr2) : wp_X2_record ct kp kr c K := by
  subst hct
  have h4 := hK.1
  have up_same : ∀ (α : Type) (f : Nat → α) (i : Nat) (x : α), va_up f i x i = x := fun α f i x => by simp [va_up]
  have up_ne : ∀ (α : Type) (f : Nat → α) (i k : Nat) (x : α), k ≠ i → va_up f i x k = f k := fun α f i k x hk => by simp [va_up, hk]
  refine ⟨fun q => ?_, fun q => ⟨fun i hi => ?_, ?_⟩⟩
  · have hc : cn < 4 := (nI_ltI (by omega) (by decide)).mp q
    unfold wp_rec1
    rw [nI_clamp (by omega), nI_1]
    refine ⟨nI_pos (by omega), q, fun _ => ?_, fun b hb => ?_⟩
    · refine n_copyFrom hG hS (fun s hs b => h _ _ _ (Or.inl ⟨hc, rfl, fun i hi => ?_, by rw [up_same]; exact hs, fun i hi => by rw [up_ne _ _ _ _ _ (by omega)]⟩))
      by_cases e : i = cn
      · subst e; exact ⟨b, up_same _ _ _ _⟩
      · rw [up_ne _ _ _ _ _ e]; exact (hK.2 i (by omega)).1
    · refine n_copyFrom hG hS (fun s hs => h _ _ _ (Or.inl ⟨hc, rfl, fun i hi => ?_, by rw [up_same]; exact hs, fun i hi => by rw [up_ne _ _ _ _ _ (by omega)]⟩))
      by_cases e : i = cn
      · subst e; exact ⟨b, hb⟩
      · exact (hK.2 i (by omega)).1
  · have hc : cn = 4 := by
      rcases Nat.lt_or_ge cn 4 with w | w
      · exact absurd ((nI_ltI (by omega) (by decide)).mpr w) q
      · omega
    exact (hK.2 i (by omega)).1
  · have hc : cn = 4 := by
      rcases Nat.lt_or_ge cn 4 with w | w
      · exact absurd ((nI_ltI (by omega) (by decide)).mpr w) q
      · omega
    have hsome : ∀ i, i < 4 → ∃ b, rotK kp i = some b := fun i hi => by
      rw [rotK_at kp hi]
      exact (hK.2 _ (by have := rot_in hi; omega)).1
    have e3 : nI 4 - 1 = nI 3 := by rw [p1 (by decide)]
    unfold wp_rec1
    rw [e3, nI_clamp (by decide), nI_1]
    refine ⟨by decide, by decide, fun hn => ?_, fun b hb => ?_⟩
    · obtain ⟨b, hb⟩ := hsome 3 (by decide)
      rw [hn] at hb
      exact absurd hb (by simp)
    · refine n_copyFrom hG hS (fun s hs => h _ _ _ (Or.inr ⟨hc, rfl, hsome, by rw [up_same]; exact hs, fun i hi => ?_⟩))
      rw [up_ne _ _ _ _ _ (by omega)]
      unfold rotR
      rw [if_neg (by omega)]
/-- what the reference's does -/
def Same2P (m y : RT) : Prop := (∀ j, j ≠ 2 → y.1 j = m.1 j) ∧ y.2.1 = m.2.1 ∧ ∀ k, k ≠ 2 → y.2.2 k = m.2.2 k
theorem Same2P_t {a b c : RT} (h : Same2P a b) (k : Same2P b c) : Same2P a c := ⟨fun j hj => (k.1 j hj).trans (h.1 j hj), k.2.1.trans h.2.1, fun j hj => (k.2.2 j hj).trans (h.2.2 j hj)⟩
theorem Same2P_I (m : RT) (f : Nat → Int32) : Same2P m (rI m 2 f) := ⟨fun _ hj => if_neg hj, rfl, fun _ _ => rfl⟩
theorem Same2P_S (m : RT) (x : Int32) : Same2P m (rS m 2 x) := ⟨fun _ _ => rfl, rfl, fun _ hj => if_neg hj⟩
def RcM (cn : Nat) (m y : RT) : Prop := Same2P m y ∧ ((cn < 4 ∧ y.2.2 2 = nI (cn + 1) ∧ (∀ q, q < 812 → y.1 2 (812 * cn + q) = m.1 1 q) ∧ ∀ q, q < 812 * cn → y.1 2 q = m.1 2 q) ∨ (cn = 4 ∧ y.2.2 2 = nI 4 ∧ (∀ q, q < 812 → y.1 2 (2436 + q) = m.1 1 q) ∧ ∀ q, q < 2436 → y.1 2 q = m.1 2 (q + 812)))
theorem n_saves {m : RT} {cn : Nat} {K : RT → Prop} (h4 : cn ≤ 4) (hm : m.2.2 2 = nI cn) (h : ∀ y, RcM cn m y → K y) : wp_X10_saves m K := by
  -- the row is written
  have wr : ∀ (y : RT) (c : Nat), c < 4 → y.2.2 2 = nI c → Same2P m y → (∀ z, Same2P m z → z.2.2 2 = nI (c + 1) → (∀ q, q < 812 → z.1 2 (812 * c + q) = m.1 1 q) → (∀ q, q < 812 * c → z.1 2 q = y.1 2 q) → K z) → ∃ f : Nat, lp_X10_saves_51 K f 0 y := by
    intro y c hc hy hs hk
    have key : ∀ (f k : Nat) (z : RT), f + k = 813 → k ≤ 812 → Same2P m z → z.2.2 2 = nI c → (∀ q, q < k → z.1 2 (812 * c + q) = m.1 1 q) → (∀ q, q < 812 * c → z.1 2 q = y.1 2 q) → lp_X10_saves_51 K f (nI k) z := by
      intro f
      induction f with
      | zero => intro k z a b; omega
      | succ f ih =>
        intro k z a b c0 c1 c2 c3
        refine ⟨fun q s3 h3 => ?_, fun q => ?_⟩
        · have := (nI_leI (a := 812) (by decide) (by omega)).mp q
          refine hk s3 (by rw [h3]; exact Same2P_t c0 (Same2P_S _ _)) ?_ (fun q hq => ?_) (fun q hq => ?_)
          · rw [h3]
            show z.2.2 2 + 1 = _
            rw [c1, nI_1]
          · rw [h3]; exact c2 q (by omega)
          · rw [h3]; exact c3 q hq
        · have hk2 : k < 812 := by
            rcases Nat.lt_or_ge k 812 with w | w
            · exact w
            · exact absurd (nI_le w (by omega)) q
          have e : (812 : Int32) * nI c + nI k = nI (812 * c + k) := by rw [show (812 : Int32) = nI 812 from rfl, pk_mul, nI_add]
          rw [c1, e, nI_clamp (by omega), nI_clamp (by omega), c0.1 1 (by decide)]
          refine ⟨vp_in_nI hk2 (by decide), vp_in_nI (by omega) (by decide), fun s4 h4 x5 h5 => ?_⟩
          have e5 : x5 = nI (k + 1) := h5.trans (nI_1 k)
          subst h4; subst e5
          refine ih (k + 1) _ (by omega) (by omega) (Same2P_t c0 (Same2P_I _ _)) c1 (fun q hq => ?_) (fun q hq => ?_)
          · show upd (z.1 2) (812 * c + k) (m.1 1 k) (812 * c + q) = _
            by_cases e : q = k
            · subst e; exact pk_us
            · rw [pk_un (by omega)]; exact c2 q (by omega)
          · show upd (z.1 2) (812 * c + k) (m.1 1 k) q = _
            rw [pk_un (by omega)]; exact c3 q hq
    exact ⟨813, key 813 0 y rfl (by decide) hs hy (fun q hq => by omega) (fun q _ => rfl)⟩
  unfold wp_X10_saves
  rw [hm]
  refine ⟨fun q => ?_, fun q => ?_⟩
  · have hc : cn < 4 := by
      rcases Nat.lt_or_ge cn 4 with w | w
      · exact w
      · exact absurd (by rw [show cn = 4 by omega]; rfl) q
    exact wr m cn hc hm ⟨fun _ _ => rfl, rfl, fun _ _ => rfl⟩ (fun z z0 z1 z2 z3 => h z ⟨z0, Or.inl ⟨hc, z1, z2, z3⟩⟩)
  · have hc : cn = 4 := (nI_eq (b := 4) (by omega) (by decide)).mp q
    have key : ∀ (f k : Nat) (z : RT), f + k = 2437 → k ≤ 2436 → Same2P m z → z.2.2 2 = nI 4 → (∀ q, q < k → z.1 2 q = m.1 2 (q + 812)) → (∀ q, k ≤ q → z.1 2 q = m.1 2 q) → lp_X10_saves_10 K f (nI k) z := by
      intro f
      induction f with
      | zero => intro k z a b; omega
      | succ f ih =>
        intro k z a b c0 c1 c2 c3
        refine ⟨fun q s7 h7 => ?_, fun q => ?_⟩
        · have hk2 := (nI_leI (a := 2436) (by decide) (by omega)).mp q
          have e7 : s7.2.2 2 = nI 3 := by
            rw [h7]
            show z.2.2 2 - 1 = _
            rw [c1, p1 (by decide)]
          refine wr s7 3 (by decide) e7 (by rw [h7]; exact Same2P_t c0 (Same2P_S _ _)) (fun w w0 w1 w2 w3 => h w ⟨w0, Or.inr ⟨hc, w1, w2, fun q hq => ?_⟩⟩)
          rw [w3 q (by omega), h7]
          exact c2 q (by omega)
        · have hk2 : k < 2436 := by
            rcases Nat.lt_or_ge k 2436 with w | w
            · exact w
            · exact absurd (nI_le w (by omega)) q
          have e : nI k + (812 : Int32) = nI (k + 812) := by rw [show (812 : Int32) = nI 812 from rfl, nI_add]
          rw [e, nI_clamp (by omega), nI_clamp (by omega), c3 (k + 812) (by omega)]
          refine ⟨vp_in_nI (by omega) (by decide), vp_in_nI (by omega) (by decide), fun s8 h8 x9 h9 => ?_⟩
          have e9 : x9 = nI (k + 1) := h9.trans (nI_1 k)
          subst h8; subst e9
          refine ih (k + 1) _ (by omega) (by omega) (Same2P_t c0 (Same2P_I _ _)) c1 (fun q hq => ?_) (fun q hq => ?_)
          · show upd (z.1 2) k (m.1 2 (k + 812)) q = _
            by_cases e : q = k
            · subst e; exact pk_us
            · rw [pk_un e]; exact c2 q (by omega)
          · show upd (z.1 2) k (m.1 2 (k + 812)) q = _
            rw [pk_un (by omega)]; exact c3 q (by omega)
    exact ⟨2437, key 2437 0 m rfl (by decide) ⟨fun _ _ => rfl, rfl, fun _ _ => rfl⟩ (by rw [hm, hc]) (fun q hq => by omega) (fun q _ => rfl)⟩
/-- together -/
theorem KG_rec {j cn : Nat} {kp kp2 : Nat → Option Nat} {kr kr2 : Nat → RT} {ct2 : Int32} {G : GH} {m y : RT} (hG : PrG j G) (hK : KG j cn kp kr (m.1 2)) (hR : RwG G (m.1 1)) (hX : RcX G cn kr ct2 kp2 kr2) (hM : RcM cn m y) : ∃ cn2, ct2 = nI cn2 ∧ y.2.2 2 = nI cn2 ∧ KG j cn2 kp2 kr2 (y.1 2) := by
  obtain ⟨s0, hM⟩ := hM
  rcases hX with ⟨a1, a2, a3, a4, a5⟩ | ⟨a1, a2, a3, a4, a5⟩
  · rcases hM with ⟨b1, b2, b3, b4⟩ | ⟨b1, _⟩
    · refine ⟨cn + 1, a2, b2, by omega, fun i hi => ⟨a3 i hi, ?_⟩⟩
      by_cases e : i = cn
      · subst e
        exact ⟨G, hG, a4, RwG_congr hG hR (fun q hq => b3 q hq)⟩
      · obtain ⟨G', g1, g2, g3⟩ := (hK.2 i (by omega)).2
        refine ⟨G', g1, by rw [a5 i (by omega)]; exact g2, RwG_congr g1 g3 (fun q hq => b4 _ (by omega))⟩
    · omega
  · rcases hM with ⟨b1, _⟩ | ⟨b1, b2, b3, b4⟩
    · omega
    · refine ⟨4, a2, b2, by omega, fun i hi => ⟨a3 i hi, ?_⟩⟩
      by_cases e : i = 3
      · subst e
        exact ⟨G, hG, a4, RwG_congr hG hR (fun q hq => b3 q hq)⟩
      · obtain ⟨G', g1, g2, g3⟩ := (hK.2 (i + 1) (by omega)).2
        refine ⟨G', g1, by rw [a5 i (by omega)]; exact g2, RwG_congr g1 g3 (fun q hq => ?_)⟩
        rw [b4 _ (by omega)]
        show m.1 2 (812 * i + q + 812) = m.1 2 (812 * (i + 1) + q)
        rw [show 812 * i + q + 812 = 812 * (i + 1) + q by omega]
