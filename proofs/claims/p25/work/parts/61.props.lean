/-! what every well read text has: digits behind '@', a code that leaves one value -/
def atP (L : Nat → Nat) (a b : Nat) : Prop := ∀ j, a ≤ j → j < b → L j = 64 → 48 ≤ L (j + 1) ∧ L (j + 1) ≤ 50
theorem atP_app {L : Nat → Nat} {a b c : Nat} (h1 : atP L a b) (h2 : atP L b c) : atP L a c := fun j q1 q2 q3 => by
  rcases Nat.lt_or_ge j b with w | w
  · exact h1 j q1 w q3
  · exact h2 j w q2 q3
theorem atP_no {L : Nat → Nat} {a b : Nat} (h : ∀ k, a ≤ k → k < b → L k ≠ 64) : atP L a b := fun j q1 q2 q3 => absurd q3 (h j q1 q2)
theorem atP_1 {L : Nat → Nat} {a : Nat} (h : L a ≠ 64) : atP L a (a + 1) := atP_no (fun k h1 h2 => by rw [show k = a by omega]; exact h)
def bd2 (x : Int) : Prop := -2000000000 ≤ x ∧ x ≤ 2000000000
def OKc (env : Nat → Int) (c : List (Nat × Nat)) : Prop := (∀ rest h, wfC rest (h + 1) → wfC (c ++ rest) h) ∧ (∀ st, evC env c st = valC env c :: st) ∧ bd2 (valC env c)
theorem evC_app {env : Nat → Int} {a b : List (Nat × Nat)} {st : List Int} : evC env (a ++ b) st = evC env b (evC env a st) := List.foldl_append
theorem val_of {env : Nat → Int} {c : List (Nat × Nat)} {x : Int} (h : ∀ st, evC env c st = x :: st) : valC env c = x := by unfold valC; rw [h []]; rfl
theorem OKc_of {env : Nat → Int} {c : List (Nat × Nat)} {x : Int} (h1 : ∀ rest h, wfC rest (h + 1) → wfC (c ++ rest) h) (h2 : ∀ st, evC env c st = x :: st) (h3 : bd2 x) : OKc env c ∧ valC env c = x := by
  have e := val_of h2
  exact ⟨⟨h1, fun st => by rw [e]; exact h2 st, by rw [e]; exact h3⟩, e⟩
theorem okc_num {env : Nat → Int} {d : Nat} (hd : d < 100000000) : OKc env [(0, d)] ∧ valC env [(0, d)] = d := OKc_of (fun rest h w => ⟨hd, Or.inl ⟨rfl, w⟩⟩) (fun st => rfl) ⟨by omega, by omega⟩
theorem okc_op {env : Nat → Int} {p : Nat} (hE : ∀ p, p < 22 → bd2 (env p)) (hp : p < 22) : OKc env [(1, p)] ∧ valC env [(1, p)] = env p := OKc_of (fun rest h w => ⟨(by dsimp only; omega), Or.inr (Or.inl ⟨rfl, hp, w⟩)⟩) (fun st => rfl) (hE p hp)
theorem okc_neg {env : Nat → Int} {c : List (Nat × Nat)} (hc : OKc env c) : OKc env (c ++ [(6, 0)]) ∧ valC env (c ++ [(6, 0)]) = hdI (-(valC env c)) := by
  refine OKc_of (fun rest h w => ?_) (fun st => ?_) (by have := hdI_in (-(valC env c)); exact ⟨by omega, by omega⟩)
  · rw [List.append_assoc]
    refine hc.1 _ h ?_
    exact ⟨(by show (0 : Nat) < 100000000; decide), Or.inr (Or.inr (Or.inl ⟨rfl, (by omega), w⟩))⟩
  · rw [evC_app, hc.2.1 st]
    rfl
theorem okc_bin {env : Nat → Int} {a b : List (Nat × Nat)} {k : Nat} (ha : OKc env a) (hb : OKc env b) (hk : isBin k) : OKc env (a ++ b ++ [(k, 0)]) ∧ valC env (a ++ b ++ [(k, 0)]) = joinZ k (valC env a) (valC env b) := by
  refine OKc_of (fun rest h w => ?_) (fun st => ?_) (joinZ_in ha.2.2 hb.2.2)
  · rw [List.append_assoc, List.append_assoc]
    refine ha.1 _ h (hb.1 _ (h + 1) ?_)
    exact ⟨(by show (0 : Nat) < 100000000; decide), Or.inr (Or.inr (Or.inr ⟨hk, (by omega), w⟩))⟩
  · rw [evC_app, evC_app, ha.2.1 st, hb.2.1]
    show [(k, 0)].foldl (evS env) _ = _
    unfold isBin at hk
    show evS env _ (k, 0) = _
    unfold evS
    dsimp only
    rw [if_neg (by omega), if_neg (by omega), if_neg (by omega)]
def Pr (env : Nat → Int) (L : Nat → Nat) (k : Nat) (r : RP) : Prop := r.1 = true → atP L k r.2.1 ∧ OKc env r.2.2
def SPr (env : Nat → Int) (L : Nat → Nat) (len : Nat) (S : Nat → RP) : Prop := ∀ k, k ≤ len → Pr env L k (S k)
theorem num_val {L : Nat → Nat} {k : Nat} (hk : isD (L k) = true) : ∀ e, e ∈ (numP L k).2.2 → e.1 = 0 ∧ e.2 < 100000000 := by
  have h1 := accV_lt (L := L) 4 k 0
  have h2 := frV_lt (L := L) 3 (k + dgN L 4 k + 1) (accV L (dgN L 4 k) k 0 * 1000) 100 (by decide)
  intro e he
  unfold numP at he
  by_cases q : L (k + dgN L 4 k) = 46
  · rw [if_pos q] at he
    by_cases q2 : dgN L 3 (k + dgN L 4 k + 1) = 0
    · rw [if_pos q2] at he; exact absurd he (by simp)
    · rw [if_neg q2] at he
      have e1 := List.mem_singleton.mp he
      rw [e1]
      refine ⟨rfl, ?_⟩
      dsimp only
      omega
  · rw [if_neg q] at he
    have e1 := List.mem_singleton.mp he
    rw [e1]
    refine ⟨rfl, ?_⟩
    dsimp only
    omega
theorem num_pr {env : Nat → Int} {L : Nat → Nat} {k : Nat} (hk : isD (L k) = true) : Pr env L k (numP L k) := by
  intro h
  constructor
  · refine atP_no (fun a h1 h2 => ?_)
    unfold numP at h h2
    by_cases q : L (k + dgN L 4 k) = 46
    · rw [if_pos q] at h h2
      by_cases q2 : dgN L 3 (k + dgN L 4 k + 1) = 0
      · rw [if_pos q2] at h; exact absurd h (by simp)
      · rw [if_neg q2] at h2
        have h3 : a < k + dgN L 4 k + 1 + dgN L 3 (k + dgN L 4 k + 1) := h2
        by_cases e1 : a < k + dgN L 4 k
        · exact dgN_no h1 e1
        · by_cases e2 : a = k + dgN L 4 k
          · rw [e2, q]; decide
          · exact dgN_no (m := 3) (k := k + dgN L 4 k + 1) (by omega) h3
    · rw [if_neg q] at h2
      exact dgN_no h1 h2
  · have hv := num_val hk
    have hs : ∃ d, (numP L k).2.2 = [(0, d)] := by
      unfold numP at h ⊢
      by_cases q : L (k + dgN L 4 k) = 46
      · rw [if_pos q] at h ⊢
        by_cases q2 : dgN L 3 (k + dgN L 4 k + 1) = 0
        · rw [if_pos q2] at h; exact absurd h (by simp)
        · rw [if_neg q2]; exact ⟨_, rfl⟩
      · rw [if_neg q]; exact ⟨_, rfl⟩
    obtain ⟨d, hd⟩ := hs
    rw [hd] at hv ⊢
    exact (okc_num (hv (0, d) (List.mem_singleton.mpr rfl)).2).1
theorem nam_pr {env : Nat → Int} {L : Nat → Nat} {k : Nat} (hE : ∀ p, p < 22 → bd2 (env p)) (hk : isNm (L k) = true) : Pr env L k (namP L k) := by
  have hkd := isNm_iff.mp hk
  intro h
  unfold namP at h ⊢
  by_cases q : L (k + 1) = 39
  · rw [if_pos q] at h ⊢
    by_cases q2 : L (k + 2) = 64
    · rw [if_pos q2] at h ⊢
      by_cases q3 : 48 ≤ L (k + 3) ∧ L (k + 3) ≤ 50
      · rw [if_pos q3]
        refine ⟨fun j h1 h2 h3 => ?_, (okc_op hE (by omega)).1⟩
        have h2' : j < k + 4 := h2
        by_cases e0 : j = k
        · subst e0; omega
        · by_cases e1 : j = k + 1
          · subst e1; omega
          · by_cases e2 : j = k + 2
            · subst e2; exact q3
            · have : j = k + 3 := by omega
              subst this; omega
      · rw [if_neg q3] at h; exact absurd h (by simp)
    · rw [if_neg q2] at h; exact absurd h (by simp)
  · rw [if_neg q] at h ⊢
    by_cases q2 : L (k + 1) = 64
    · rw [if_pos q2] at h ⊢
      by_cases q3 : 48 ≤ L (k + 2) ∧ L (k + 2) ≤ 50
      · rw [if_pos q3]
        refine ⟨fun j h1 h2 h3 => ?_, (okc_op hE (by omega)).1⟩
        have h2' : j < k + 3 := h2
        by_cases e0 : j = k
        · subst e0; omega
        · by_cases e1 : j = k + 1
          · subst e1; exact q3
          · have : j = k + 2 := by omega
            subst this; omega
      · rw [if_neg q3] at h; exact absurd h (by simp)
    · rw [if_neg q2]
      exact ⟨atP_1 (by omega), (okc_op hE (by omega)).1⟩
theorem bare_pr {env : Nat → Int} {S : Nat → RP} {o : Bool} {L : Nat → Nat} {len : Nat} (hE : ∀ p, p < 22 → bd2 (env p)) (hL : LOK L len) (hS : o = true → SOK S L len) (hB : o = true → SPr env L len S) : SPr env L len (bareP S o L) := by
  intro k hk
  unfold bareP
  by_cases q1 : isD (L k) = true
  · rw [if_pos q1]; exact num_pr q1
  rw [if_neg q1]
  by_cases q2 : isNm (L k) = true
  · rw [if_pos q2]; exact nam_pr hE q2
  rw [if_neg q2]
  by_cases q3 : L k = 116
  · rw [if_pos q3]
    intro _
    exact ⟨atP_1 (by omega), (okc_op hE (by decide)).1⟩
  rw [if_neg q3]
  by_cases q4 : L k = 109
  · rw [if_pos q4]
    by_cases q5 : L (k + 1) = 105 ∨ L (k + 1) = 97
    · rw [if_pos q5]
      by_cases q6 : L (k + 2) = (if L (k + 1) = 105 then 110 else 120)
      · rw [if_pos q6]
        by_cases q7 : o = true ∧ L (k + 3) = 40
        · rw [if_pos q7]
          have hk3 := LOK_lt hL (k := k + 3) (by omega)
          by_cases q8 : (S (k + 4)).1 = true
          · rw [if_pos q8]
            have ok := hS q7.1 (k + 4) (by omega) q8
            have u1 := hB q7.1 (k + 4) (by omega) q8
            by_cases q9 : L (S (k + 4)).2.1 = 44
            · rw [if_pos q9]
              have hk4 := LOK_lt hL (k := (S (k + 4)).2.1) (by omega)
              by_cases q10 : (S ((S (k + 4)).2.1 + 1)).1 = true
              · rw [if_pos q10]
                have ok2 := hS q7.1 ((S (k + 4)).2.1 + 1) (by omega) q10
                have u2 := hB q7.1 ((S (k + 4)).2.1 + 1) (by omega) q10
                by_cases q11 : L (S ((S (k + 4)).2.1 + 1)).2.1 = 41
                · rw [if_pos q11]
                  intro _
                  have hno : atP L k (k + 4) := atP_no (fun a h1 h2 => by
                    by_cases e0 : a = k
                    · subst e0; omega
                    · by_cases e1 : a = k + 1
                      · subst e1; omega
                      · by_cases e2 : a = k + 2
                        · subst e2
                          rw [q6]; split <;> decide
                        · rw [show a = k + 3 by omega]; omega)
                  refine ⟨atP_app hno (atP_app u1.1 (atP_app (atP_1 (by omega)) (atP_app u2.1 (atP_1 (by omega))))), (okc_bin u1.2 u2.2 ?_).1⟩
                  unfold isBin
                  split <;> decide
                · rw [if_neg q11]; intro h; exact absurd h (by simp)
              · rw [if_neg q10]; intro h; exact absurd h (by simp)
            · rw [if_neg q9]; intro h; exact absurd h (by simp)
          · rw [if_neg q8]; intro h; exact absurd h (by simp)
        · rw [if_neg q7]; intro h; exact absurd h (by simp)
      · rw [if_neg q6]; intro h; exact absurd h (by simp)
    · rw [if_neg q5]; intro h; exact absurd h (by simp)
  rw [if_neg q4]
  by_cases q5 : o = true ∧ L k = 40
  · rw [if_pos q5]
    have hk3 := LOK_lt hL (k := k) (by omega)
    by_cases q8 : (S (k + 1)).1 = true
    · rw [if_pos q8]
      have u1 := hB q5.1 (k + 1) (by omega) q8
      by_cases q9 : L (S (k + 1)).2.1 = 41
      · rw [if_pos q9]
        intro _
        exact ⟨atP_app (atP_1 (by omega)) (atP_app u1.1 (atP_1 (by omega))), u1.2⟩
      · rw [if_neg q9]; intro h; exact absurd h (by simp)
    · rw [if_neg q8]; intro h; exact absurd h (by simp)
  · rw [if_neg q5]; intro h; exact absurd h (by simp)
def ngI : Nat → Int → Int
  | 0, x => x
  | g + 1, x => ngI g (hdI (-x))
theorem negs_s (g : Nat) : negs (g + 1) = [(6, 0)] ++ negs g := rfl
theorem okc_negs {env : Nat → Int} : ∀ (g : Nat) (c : List (Nat × Nat)), OKc env c → OKc env (c ++ negs g) ∧ valC env (c ++ negs g) = ngI g (valC env c) := by
  intro g
  induction g with
  | zero => intro c hc; exact ⟨by show OKc env (c ++ []); rw [List.append_nil]; exact hc, by show valC env (c ++ []) = _; rw [List.append_nil]; rfl⟩
  | succ g ih =>
    intro c hc
    obtain ⟨h1, h2⟩ := okc_neg hc
    obtain ⟨h3, h4⟩ := ih _ h1
    rw [negs_s, ← List.append_assoc]
    refine ⟨h3, ?_⟩
    rw [h4, h2]
    rfl
theorem unit_pr {env : Nat → Int} {S : Nat → RP} {o : Bool} {L : Nat → Nat} {len : Nat} (hE : ∀ p, p < 22 → bd2 (env p)) (hL : LOK L len) (hS : o = true → SOK S L len) (hB : o = true → SPr env L len S) : SPr env L len (unitP S o L) := by
  intro k hk
  have hg := ngN_len hL 80 k hk
  have hu := bare_pr hE hL hS hB (k + ngN L 80 k) hg
  unfold unitP
  by_cases q : (bareP S o L (k + ngN L 80 k)).1 = true
  · rw [if_pos q]
    intro _
    obtain ⟨h1, h2⟩ := hu q
    exact ⟨atP_app (atP_no (fun a w1 w2 => ngN_no 80 k a w1 w2)) h1, (okc_negs _ _ h2).1⟩
  · rw [if_neg q]; intro h; exact absurd h (by simp)
theorem row_pr {env : Nat → Int} {U : Nat → RP} {L : Nat → Nat} {len a b ka kb : Nat} (hL : LOK L len) (ha : a ≠ 0 ∧ a ≠ 64) (hb : b ≠ 0 ∧ b ≠ 64) (hk1 : isBin ka ∧ isBin kb) (hU : SOK U L len) (hB : SPr env L len U) : ∀ m k0 k c, k0 ≤ k → k ≤ len → atP L k0 k → OKc env c → Pr env L k0 (rowP U L a b ka kb m k c) := by
  intro m
  induction m with
  | zero => intro k0 k c h1 h2 h3 h4 _; exact ⟨h3, h4⟩
  | succ m ih =>
    intro k0 k c h1 h2 h3 h4
    unfold rowP
    by_cases q : L k = a ∨ L k = b
    · rw [if_pos q]
      have hk2 := LOK_lt hL (k := k) (by omega)
      by_cases q2 : (U (k + 1)).1 = true
      · rw [if_pos q2]
        have ok := hU (k + 1) (by omega) q2
        have a1 := ok.1
        obtain ⟨u1, u2⟩ := hB (k + 1) (by omega) q2
        refine ih k0 _ _ (by omega) ok.2.1 (atP_app h3 (atP_app (atP_1 (by omega)) u1)) (okc_bin h4 u2 ?_).1
        split
        · exact hk1.1
        · exact hk1.2
      · rw [if_neg q2]; intro h; exact absurd h (by simp)
    · rw [if_neg q]; intro _; exact ⟨h3, h4⟩
theorem bin45 : isBin 4 ∧ isBin 5 := ⟨by unfold isBin; decide, by unfold isBin; decide⟩
theorem bin23 : isBin 2 ∧ isBin 3 := ⟨by unfold isBin; decide, by unfold isBin; decide⟩
theorem term_pr {env : Nat → Int} {S : Nat → RP} {o : Bool} {L : Nat → Nat} {len : Nat} (hE : ∀ p, p < 22 → bd2 (env p)) (hL : LOK L len) (hS : o = true → SOK S L len) (hB : o = true → SPr env L len S) : SPr env L len (termP S o L) := by
  intro k hk
  unfold termP
  by_cases q : (unitP S o L k).1 = true
  · rw [if_pos q]
    have ok := unit_ok hL hS hk q
    obtain ⟨u1, u2⟩ := unit_pr hE hL hS hB k hk q
    exact row_pr hL (by omega) (by omega) bin45 (fun k hk => unit_ok hL hS hk) (unit_pr hE hL hS hB) 80 k _ _ (by have := ok.1; omega) ok.2.1 u1 u2
  · rw [if_neg q]; intro h; exact absurd h (by simp)
theorem sumF_pr {env : Nat → Int} {S : Nat → RP} {o : Bool} {L : Nat → Nat} {len : Nat} (hE : ∀ p, p < 22 → bd2 (env p)) (hL : LOK L len) (hS : o = true → SOK S L len) (hB : o = true → SPr env L len S) : SPr env L len (sumF S o L) := by
  intro k hk
  unfold sumF
  by_cases q : (termP S o L k).1 = true
  · rw [if_pos q]
    have ok := term_ok hL hS hk q
    obtain ⟨u1, u2⟩ := term_pr hE hL hS hB k hk q
    exact row_pr hL (by omega) (by omega) bin23 (fun k hk => term_ok hL hS hk) (term_pr hE hL hS hB) 80 k _ _ (by have := ok.1; omega) ok.2.1 u1 u2
  · rw [if_neg q]; intro h; exact absurd h (by simp)
theorem sum_pr {env : Nat → Int} {L : Nat → Nat} {len : Nat} (hE : ∀ p, p < 22 → bd2 (env p)) (hL : LOK L len) : ∀ d, SPr env L len (sumP L d) := by
  intro d
  induction d with
  | zero => exact sumF_pr hE hL (fun h => absurd h (by decide)) (fun h => absurd h (by decide))
  | succ d ih => exact sumF_pr hE hL (fun _ => sum_ok hL d) (fun _ => ih)
