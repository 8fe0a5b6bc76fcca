/-! the class reads units, terms, sums: with the signs ahead and between -/
theorem n_unit {RS : RT → Int32 → (Int32 → RT → Prop) → Prop} {S : Nat → RP} {s : RT} {L : Nat → Nat} {len k o : Nat} {c : List (Nat × Nat)} {K : Int32 → RT → Prop} (hL : LOK L len) (ho : o ≤ 6) (hS : o < 6 → SOK S L len) (hRS : o < 6 → RSok RS S L len (nI (o + 1))) (hA : AtT s L len k c) (hc : c.length ≤ k) (hk : k ≤ len) (h : PostP (unitP S (decide (o < 6)) L k) L len c K) : wp_X8_readUnit RS s (nI o) K := by
  have h80 := hL.1
  have hgl := ngN_len hL 80 k hk
  unfold unitP at h
  have hend : ∀ y, AtT y L len (k + ngN L 80 k) c → jp_X8_readUnit_23 RS (nI o) K (nI (ngN L 80 k)) y := by
    intro y hy
    generalize ngN L 80 k = g at hy h hgl ⊢
    refine n_bare hL ho hS hRS hy (by omega) hgl (fun s3 => ⟨fun q h3 => ⟨fun _ => ?_, fun z => absurd z (by decide)⟩, fun q h3 => ⟨fun z => absurd rfl z, fun _ => ?_⟩⟩)
    · rw [if_pos q] at h
      obtain ⟨a1, a2, a3⟩ := bare_ok (o := decide (o < 6)) hL (fun e => hS (by simpa using e)) hgl q
      have key : ∀ m i y, i + m = g → AtT y L len (bareP S (decide (o < 6)) L (k + g)).2.1 (c ++ (bareP S (decide (o < 6)) L (k + g)).2.2 ++ negs i) → lp_X8_readUnit_35 RS (nI o) K (m + 1) (nI g) (nI i) y := by
        intro m
        induction m with
        | zero =>
          intro i y hi hy
          refine ⟨fun _ => (h y).1 rfl ?_, fun z => absurd (nI_le (show g ≤ i by omega) (by omega)) z⟩
          rw [show i = g by omega, List.append_assoc] at hy
          exact hy
        | succ m ih =>
          intro i y hi hy
          refine ⟨fun z => absurd ((nI_leI (by omega) (by omega)).mp z) (by omega), fun _ => ?_⟩
          refine n_emit (kd := 6) (d := 0) hy ?_ (by omega) (by omega) (by omega) (fun s6 h6 x7 hx7 => ?_)
          · unfold negs
            rw [List.length_append, List.length_append, List.length_replicate]
            omega
          · have e7 : x7 = nI (i + 1) := hx7.trans (nI_1 i)
            subst e7
            refine ih (i + 1) s6 (by omega) ?_
            have e : negs (i + 1) = negs i ++ [(6, 0)] := List.replicate_succ'
            rw [e, ← List.append_assoc]
            exact h6
      refine ⟨g + 1, key g 0 s3 (by omega) ?_⟩
      show AtT s3 L len _ (_ ++ [])
      rw [List.append_nil]; exact h3
    · rw [if_neg (by rw [q]; decide)] at h
      exact (h s3).2 rfl h3
  have key : ∀ m i at' y, i + m = 80 → AtT y L len at' c → at' ≤ len → (∀ y', AtT y' L len (at' + ngN L m at') c → jp_X8_readUnit_23 RS (nI o) K (nI (i + ngN L m at')) y') → lp_X8_readUnit_2 RS (nI o) K (m + 1) (nI i) y := by
    intro m
    induction m with
    | zero =>
      intro i at' y hi hy ha hK
      exact ⟨fun _ => hK y hy, fun z => absurd (nI_le (a := 80) (show 80 ≤ i by omega) (by omega)) z⟩
    | succ m ih =>
      intro i at' y hi hy ha hK
      unfold ngN at hK
      refine ⟨fun z => ?_, fun _ => ?_⟩
      · have := (nI_leI (a := 80) (by decide) (by omega)).mp z
        omega
      · rw [show (45 : Int32) = nI 45 from rfl]
        refine n_accept hL hy (by omega) (by omega) (fun q s9 h9 => ⟨fun z => absurd z (by decide), fun _ x11 hx11 => ?_⟩) (fun q => ⟨fun _ => ?_, fun z => absurd rfl z⟩)
        · have e11 : x11 = nI (i + 1) := hx11.trans (nI_1 i)
          subst e11
          rw [if_pos q] at hK
          have := LOK_lt hL (k := at') (by omega)
          refine ih (i + 1) (at' + 1) s9 (by omega) h9 (by omega) (fun y' hy' => ?_)
          have := hK y' (by rw [show at' + (ngN L m (at' + 1) + 1) = at' + 1 + ngN L m (at' + 1) by omega]; exact hy')
          rw [show i + (ngN L m (at' + 1) + 1) = i + 1 + ngN L m (at' + 1) by omega] at this
          exact this
        · rw [if_neg q] at hK
          exact hK y hy
  refine ⟨81, key 80 0 k s rfl hA hk (fun y' hy' => ?_)⟩
  rw [Nat.zero_add]
  exact hend y' hy'
theorem n_term {RS : RT → Int32 → (Int32 → RT → Prop) → Prop} {S : Nat → RP} {s : RT} {L : Nat → Nat} {len k o : Nat} {c : List (Nat × Nat)} {K : Int32 → RT → Prop} (hL : LOK L len) (ho : o ≤ 6) (hS : o < 6 → SOK S L len) (hRS : o < 6 → RSok RS S L len (nI (o + 1))) (hA : AtT s L len k c) (hc : c.length ≤ k) (hk : k ≤ len) (h : PostP (termP S (decide (o < 6)) L k) L len c K) : wp_X8_readTerm RS s (nI o) K := by
  have h80 := hL.1
  have hS' : decide (o < 6) = true → SOK S L len := fun e => hS (by simpa using e)
  unfold termP at h
  refine n_unit hL ho hS hRS hA hc hk (fun s2 => ⟨fun q h2 => ⟨fun _ => ?_, fun z => absurd z (by decide)⟩, fun q h2 => ⟨fun z => absurd rfl z, fun _ => ?_⟩⟩)
  · rw [if_pos q] at h
    obtain ⟨a1, a2, a3⟩ := unit_ok hL hS' hk q
    have key : ∀ m i at' c2 y, i + m = 80 → AtT y L len at' (c ++ c2) → at' ≤ len → c.length + c2.length ≤ at' → PostP (rowP (unitP S (decide (o < 6)) L) L 42 47 4 5 m at' c2) L len c K → lp_X8_readTerm_12 RS (nI o) K (m + 1) (nI i) y := by
      intro m
      induction m with
      | zero =>
        intro i at' c2 y hi hy ha hcl h
        exact ⟨fun _ => (h y).1 rfl hy, fun z => absurd (nI_le (a := 80) (show 80 ≤ i by omega) (by omega)) z⟩
      | succ m ih =>
        intro i at' c2 y hi hy ha hcl h
        unfold rowP at h
        refine ⟨fun z => ?_, fun _ => ?_⟩
        · have := (nI_leI (a := 80) (by decide) (by omega)).mp z
          omega
        · have h126 := LOK_126 hL at'
          have hgo : ∀ kk, L at' = 42 ∨ L at' = 47 → kk = (if L at' = 42 then 4 else 5) → jp_X8_readTerm_50 RS (nI o) K (fun v0 v1 => lp_X8_readTerm_12 RS (nI o) K (m + 1) v0 v1) (nI i) (nI kk) y := by
            intro kk q2 hkk
            rw [if_pos q2, ← hkk] at h
            have hal := LOK_lt hL (k := at') (by omega)
            have hk16 : kk < 16 ∧ kk ≠ 1 := by rw [hkk]; split <;> omega
            intro s9 h9
            rw [hy.1.2.2, nI_1] at h9
            subst h9
            refine n_unit hL ho hS hRS (AtT_go hy) (by rw [List.length_append]; omega) (by omega) (fun s11 => ⟨fun q3 h11 => ⟨fun _ => ?_, fun z => absurd z (by decide)⟩, fun q3 h11 => ⟨fun z => absurd rfl z, fun _ => ?_⟩⟩)
            · rw [if_pos q3] at h
              obtain ⟨b1, b2, b3⟩ := unit_ok hL hS' (show at' + 1 ≤ len by omega) q3
              refine n_emit (d := 0) h11 (by rw [List.length_append, List.length_append]; omega) hk16.1 hk16.2 (by omega) (fun s13 h13 x14 hx14 => ?_)
              have e14 : x14 = nI (i + 1) := hx14.trans (nI_1 i)
              subst e14
              refine ih (i + 1) _ (c2 ++ (unitP S (decide (o < 6)) L (at' + 1)).2.2 ++ [(kk, 0)]) s13 (by omega) ?_ b2 ?_ h
              · rw [← List.append_assoc, ← List.append_assoc]; exact h13
              · rw [List.length_append, List.length_append]
                simp only [List.length_cons, List.length_nil]
                omega
            · rw [if_neg (by rw [q3]; decide)] at h
              exact (h s11).2 rfl h11
          have h42 : nI (L at') = 42 ↔ L at' = 42 := nI_eq (b := 42) (by omega) (by decide)
          have h47 : nI (L at') = 47 ↔ L at' = 47 := nI_eq (b := 47) (by omega) (by decide)
          refine n_sign hL hy.1 (by omega) ?_
          rw [h42]
          have h36 : L at' = 42 ∨ L at' = 47 → jp_X8_readTerm_36 RS (nI o) K (fun v0 v1 => lp_X8_readTerm_12 RS (nI o) K (m + 1) v0 v1) (nI i) y := by
            intro q2
            refine n_sign hL hy.1 (by omega) ?_
            rw [h42]
            exact ⟨fun z => hgo 5 q2 (by rw [if_neg z]), fun z => hgo 4 q2 (by rw [if_pos z])⟩
          refine ⟨fun z => h36 (Or.inl z), fun z => n_sign hL hy.1 (by omega) ?_⟩
          rw [h47]
          refine ⟨fun z2 => ?_, fun z2 => h36 (Or.inr z2)⟩
          rw [if_neg (fun w => w.elim z z2)] at h
          exact (h y).1 rfl hy
    exact ⟨81, key 80 0 _ _ s2 rfl h2 a2 (by omega) h⟩
  · rw [if_neg (by rw [q]; decide)] at h
    exact (h s2).2 rfl h2
theorem n_sumF {RS : RT → Int32 → (Int32 → RT → Prop) → Prop} {S : Nat → RP} {s : RT} {L : Nat → Nat} {len k o : Nat} {c : List (Nat × Nat)} {K : Int32 → RT → Prop} (hL : LOK L len) (ho : o ≤ 6) (hS : o < 6 → SOK S L len) (hRS : o < 6 → RSok RS S L len (nI (o + 1))) (hA : AtT s L len k c) (hc : c.length ≤ k) (hk : k ≤ len) (h : PostP (sumF S (decide (o < 6)) L k) L len c K) : wp_X8_readSum RS s (nI o) K := by
  have h80 := hL.1
  have hS' : decide (o < 6) = true → SOK S L len := fun e => hS (by simpa using e)
  unfold sumF at h
  refine ⟨fun z => ?_, fun _ => ?_⟩
  · have := (nI_ltI (a := 6) (by decide) (by omega)).mp z
    omega
  refine n_term hL ho hS hRS hA hc hk (fun s2 => ⟨fun q h2 => ⟨fun _ => ?_, fun z => absurd z (by decide)⟩, fun q h2 => ⟨fun z => absurd rfl z, fun _ => ?_⟩⟩)
  · rw [if_pos q] at h
    obtain ⟨a1, a2, a3⟩ := term_ok hL hS' hk q
    have key : ∀ m i at' c2 y, i + m = 80 → AtT y L len at' (c ++ c2) → at' ≤ len → c.length + c2.length ≤ at' → PostP (rowP (termP S (decide (o < 6)) L) L 43 45 2 3 m at' c2) L len c K → lp_X8_readSum_18 RS (nI o) K (m + 1) (nI i) y := by
      intro m
      induction m with
      | zero =>
        intro i at' c2 y hi hy ha hcl h
        exact ⟨fun _ => (h y).1 rfl hy, fun z => absurd (nI_le (a := 80) (show 80 ≤ i by omega) (by omega)) z⟩
      | succ m ih =>
        intro i at' c2 y hi hy ha hcl h
        unfold rowP at h
        refine ⟨fun z => ?_, fun _ => ?_⟩
        · have := (nI_leI (a := 80) (by decide) (by omega)).mp z
          omega
        · have h126 := LOK_126 hL at'
          have hgo : ∀ kk, L at' = 43 ∨ L at' = 45 → kk = (if L at' = 43 then 2 else 3) → jp_X8_readSum_56 RS (nI o) K (fun v0 v1 => lp_X8_readSum_18 RS (nI o) K (m + 1) v0 v1) (nI i) (nI kk) y := by
            intro kk q2 hkk
            rw [if_pos q2, ← hkk] at h
            have hal := LOK_lt hL (k := at') (by omega)
            have hk16 : kk < 16 ∧ kk ≠ 1 := by rw [hkk]; split <;> omega
            intro s9 h9
            rw [hy.1.2.2, nI_1] at h9
            subst h9
            refine n_term hL ho hS hRS (AtT_go hy) (by rw [List.length_append]; omega) (by omega) (fun s11 => ⟨fun q3 h11 => ⟨fun _ => ?_, fun z => absurd z (by decide)⟩, fun q3 h11 => ⟨fun z => absurd rfl z, fun _ => ?_⟩⟩)
            · rw [if_pos q3] at h
              obtain ⟨b1, b2, b3⟩ := term_ok hL hS' (show at' + 1 ≤ len by omega) q3
              refine n_emit (d := 0) h11 (by rw [List.length_append, List.length_append]; omega) hk16.1 hk16.2 (by omega) (fun s13 h13 x14 hx14 => ?_)
              have e14 : x14 = nI (i + 1) := hx14.trans (nI_1 i)
              subst e14
              refine ih (i + 1) _ (c2 ++ (termP S (decide (o < 6)) L (at' + 1)).2.2 ++ [(kk, 0)]) s13 (by omega) ?_ b2 ?_ h
              · rw [← List.append_assoc, ← List.append_assoc]; exact h13
              · rw [List.length_append, List.length_append]
                simp only [List.length_cons, List.length_nil]
                omega
            · rw [if_neg (by rw [q3]; decide)] at h
              exact (h s11).2 rfl h11
          have h43 : nI (L at') = 43 ↔ L at' = 43 := nI_eq (b := 43) (by omega) (by decide)
          have h45 : nI (L at') = 45 ↔ L at' = 45 := nI_eq (b := 45) (by omega) (by decide)
          refine n_sign hL hy.1 (by omega) ?_
          rw [h43]
          have h36 : L at' = 43 ∨ L at' = 45 → jp_X8_readSum_42 RS (nI o) K (fun v0 v1 => lp_X8_readSum_18 RS (nI o) K (m + 1) v0 v1) (nI i) y := by
            intro q2
            refine n_sign hL hy.1 (by omega) ?_
            rw [h43]
            exact ⟨fun z => hgo 3 q2 (by rw [if_neg z]), fun z => hgo 2 q2 (by rw [if_pos z])⟩
          refine ⟨fun z => h36 (Or.inl z), fun z => n_sign hL hy.1 (by omega) ?_⟩
          rw [h45]
          refine ⟨fun z2 => ?_, fun z2 => h36 (Or.inr z2)⟩
          rw [if_neg (fun w => w.elim z z2)] at h
          exact (h y).1 rfl hy
    exact ⟨81, key 80 0 _ _ s2 rfl h2 a2 (by omega) h⟩
  · rw [if_neg (by rw [q]; decide)] at h
    exact (h s2).2 rfl h2
theorem n_sum {L : Nat → Nat} {len : Nat} (hL : LOK L len) : ∀ d f o, o + d = 6 → d < f → RSok (fun s2 o2 K2 => wr_readSum f s2 o2 K2) (sumP L d) L len (nI o) := by
  intro d
  induction d with
  | zero =>
    intro f o ho hf s k c K hA hc hk h
    obtain ⟨f, rfl⟩ : ∃ g, f = g + 1 := ⟨f - 1, by omega⟩
    have ho6 : o = 6 := by omega
    subst ho6
    exact n_sumF (S := fun k => (false, k, [])) (o := 6) hL (by omega) (fun z => by omega) (fun z => by omega) hA hc hk h
  | succ d ih =>
    intro f o ho hf s k c K hA hc hk h
    obtain ⟨f, rfl⟩ : ∃ g, f = g + 1 := ⟨f - 1, by omega⟩
    have e : decide (o < 6) = true := by simpa using (show o < 6 by omega)
    refine n_sumF (S := sumP L d) hL (by omega) (fun _ => sum_ok hL d) (fun _ => ih f (o + 1) (by omega) (by omega)) hA hc hk ?_
    rw [e]
    exact h
/-- the fault of a text: none, or where -/
def fltP (L : Nat → Nat) (len : Nat) : Option Nat := if (sumP L 6 0).1 = true ∧ (sumP L 6 0).2.1 = len then none else some (sumP L 6 0).2.1
theorem n_read {s : RT} {L : Nat → Nat} {len : Nat} {K : Int32 → RT → Prop} (hL : LOK L len) (hl : s.2.2 1 = nI len) (hs : ∀ i, i < len → s.1 1 i = nI (L i))
    (h1 : (sumP L 6 0).1 = true → (sumP L 6 0).2.1 = len → ∀ s', AtT s' L len len (sumP L 6 0).2.2 → K (-1) s') (h0 : ¬ ((sumP L 6 0).1 = true ∧ (sumP L 6 0).2.1 = len) → ∀ s', AtF s' L len (sumP L 6 0).2.1 → K (nI (sumP L 6 0).2.1) s') (hpos : (sumP L 6 0).2.1 < 900) : wp_X8_read s K := by
  have h80 := hL.1
  intro s1 e1 s2 e2 s3 e3
  subst e1; subst e2; subst e3
  refine n_sum hL 6 8 0 (by omega) (by omega) _ 0 [] _ ⟨⟨hl, hs, rfl⟩, trivial, rfl, rfl⟩ (Nat.le_refl 0) (by omega) (fun s5 => ⟨fun q h5 => ⟨fun z => absurd z (by decide), fun _ => ?_⟩, fun q h5 => ⟨fun _ => ?_, fun z => absurd rfl z⟩⟩)
  · rw [List.nil_append] at h5
    rw [h5.1.2.2, h5.1.1]
    refine ⟨fun z => h0 (fun w => z (by rw [w.2])) s5 h5.1, fun z => ?_⟩
    have e := (nI_eq (by omega) (by omega)).mp z
    rw [e] at h5
    exact h1 q e s5 h5
  · rw [h5.2.2]
    exact h0 (fun w => by rw [q] at w; exact absurd w.1 (by decide)) s5 h5
