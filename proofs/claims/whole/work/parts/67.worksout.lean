/-! the reference's right side gives the value of the code -/
section
variable {K : Int64 → RT → Prop} {m : RT} {v len : Nat} {L : Nat → Nat} {t : Int32} {env : Nat → Int}
def UW (K : Int64 → RT → Prop) (m : RT) (v len : Nat) (L : Nat → Nat) (t : Int32) (env : Nat → Int) (U : Nat → RP) : Prop := ∀ (k : Nat) (vs : List Int) (ss : List Nat), k ≤ len → vs.length ≤ k → ss.length ≤ k → (U k).1 = true → Fol L (U k).2.1 → (∀ r, ss ≠ 126 :: r) → RunW K m v len t (valC env (U k).2.2 :: vs) ss 0 (U k).2.1 → RunW K m v len t vs ss 1 k
def BW (K : Int64 → RT → Prop) (m : RT) (v len : Nat) (L : Nat → Nat) (t : Int32) (env : Nat → Int) (U : Nat → RP) : Prop := ∀ (k g : Nat) (vs : List Int) (ss : List Nat), k ≤ len → vs.length ≤ k → g + ss.length ≤ k → (U k).1 = true → Fol L (U k).2.1 → (∀ r, ss ≠ 126 :: r) → RunW K m v len t (ngI g (valC env (U k).2.2) :: vs) ss 0 (U k).2.1 → RunW K m v len t vs (List.replicate g 126 ++ ss) 1 k
def CW (K : Int64 → RT → Prop) (m : RT) (v len : Nat) (L : Nat → Nat) (t : Int32) (env : Nat → Int) (r : Nat) (S : Nat → RP) : Prop := ∀ (k : Nat) (vs : List Int) (ss : List Nat), k ≤ len → vs.length ≤ k → ss.length ≤ k → (S k).1 = true → Fol L (S k).2.1 → topr ss < r → (∀ q, ss ≠ 126 :: q) → (∀ vs' ss', carry r ss' vs' = (valC env (S k).2.2 :: vs, ss) → vs'.length ≤ (S k).2.1 → ss'.length ≤ (S k).2.1 → RunW K m v len t vs' ss' 0 (S k).2.1) → RunW K m v len t vs ss 1 k
theorem fol_of {k : Nat} {c : Nat} (h : L k = c) (h1 : isD c = false) (h2 : c ≠ 46) : Fol L k := by unfold Fol; rw [h]; exact ⟨h1, h2⟩
theorem bare_W {S : Nat → RP} {o : Bool} (hL : LOK L len) (hT : TX (m.1 1) v L len) (hv : v < 3) (hE : ∀ p, p < 22 → bd2 (env p)) (hM : EnvM m t env) (hS : o = true → SOK S L len) (hB : o = true → SPr env L len S) (hC : o = true → CW K m v len L t env 1 S) : BW K m v len L t env (bareP S o L) := by
  intro k g vs ss hk l1 l2 hg hF hnt h
  have hl : (List.replicate g 126 ++ ss).length = g + ss.length := by rw [List.length_append, List.length_replicate]
  unfold bareP at hg hF h
  by_cases q1 : isD (L k) = true
  · rw [if_pos q1] at hg hF h
    have hd := isD_iff.mp q1
    exact w_num hL hT hv (LOK_lt hL (by omega)) hnt q1 hg hF h
  rw [if_neg q1] at hg hF h
  by_cases q2 : isNm (L k) = true
  · rw [if_pos q2] at hg hF h
    have hd := isNm_iff.mp q2
    exact w_name hL hT hv (LOK_lt hL (by omega)) hnt hE hM q2 hg h
  rw [if_neg q2] at hg hF h
  by_cases q3 : L k = 116
  · rw [if_pos q3] at hg hF h
    exact w_t hL hT hv (LOK_lt hL (by omega)) hnt q3 hM.1 (hE 3 (by decide)) h
  rw [if_neg q3] at hg hF h
  by_cases q4 : L k = 109
  · rw [if_pos q4] at hg hF h
    by_cases q5 : L (k + 1) = 105 ∨ L (k + 1) = 97
    · rw [if_pos q5] at hg hF h
      by_cases q6 : L (k + 2) = (if L (k + 1) = 105 then 110 else 120)
      · rw [if_pos q6] at hg hF h
        by_cases q7 : o = true ∧ L (k + 3) = 40
        · rw [if_pos q7] at hg hF h
          have hk3 := LOK_lt hL (k := k + 3) (by omega)
          by_cases q8 : (S (k + 4)).1 = true
          · rw [if_pos q8] at hg hF h
            have ok := hS q7.1 (k + 4) (by omega) q8
            have u1 := hB q7.1 (k + 4) (by omega) q8
            by_cases q9 : L (S (k + 4)).2.1 = 44
            · rw [if_pos q9] at hg hF h
              have hk4 := LOK_lt hL (k := (S (k + 4)).2.1) (by omega)
              by_cases q10 : (S ((S (k + 4)).2.1 + 1)).1 = true
              · rw [if_pos q10] at hg hF h
                have ok2 := hS q7.1 ((S (k + 4)).2.1 + 1) (by omega) q10
                have u2 := hB q7.1 ((S (k + 4)).2.1 + 1) (by omega) q10
                by_cases q11 : L (S ((S (k + 4)).2.1 + 1)).2.1 = 41
                · rw [if_pos q11] at hg hF h
                  have hk5 := LOK_lt hL (k := (S ((S (k + 4)).2.1 + 1)).2.1) (by omega)
                  have hb : isBin (if L (k + 1) = 105 then 7 else 8) := by unfold isBin; split <;> decide
                  have ev := (okc_bin u1.2 u2.2 hb).2
                  have h' : RunW K m v len t (ngI g (valC env ((S (k + 4)).2.2 ++ (S ((S (k + 4)).2.1 + 1)).2.2 ++ [(if L (k + 1) = 105 then 7 else 8, 0)])) :: vs) ss 0 ((S ((S (k + 4)).2.1 + 1)).2.1 + 1) := h
                  rw [ev] at h'
                  have a1 := ok.1
                  have a2 := ok2.1
                  have r0 : rk (L (k + 1)) < 1 := by
                    rcases q5 with z | z
                    · rw [z]; decide
                    · rw [z]; decide
                  have n0 : ∀ q, (L (k + 1)) :: (List.replicate g 126 ++ ss) ≠ 126 :: q := fun q z => by
                    have := (List.cons.inj z).1
                    omega
                  refine w_word hL hT hv (by omega) q4 rfl q5 ?_
                  refine hC q7.1 (k + 4) _ _ (by omega) (by omega) (by simp only [List.length_cons, hl]; omega) q8 (fol_of q9 rfl (by decide)) r0 n0 (fun vs' ss' hc' b1 b2 => ?_)
                  refine w_comma hL hT hv hk4 q9 hc' r0 (by simp only [List.length_cons]; omega) (by simp only [List.length_cons, hl]; omega) ?_
                  refine hC q7.1 _ _ _ (by omega) (by simp only [List.length_cons]; omega) (by simp only [List.length_cons, hl]; omega) q10 (fol_of q11 rfl (by decide)) (by show rk 44 < 1; decide) (fun q z => absurd (List.cons.inj z).1 (by decide)) (fun vs2 ss2 hc2 b3 b4 => ?_)
                  exact w_shutM hL hT hv hk5 q11 q5 hnt hc2 (by omega) (by omega) h'
                · rw [if_neg q11] at hg; exact absurd hg (by simp)
              · rw [if_neg q10] at hg; exact absurd hg (by simp)
            · rw [if_neg q9] at hg; exact absurd hg (by simp)
          · rw [if_neg q8] at hg; exact absurd hg (by simp)
        · rw [if_neg q7] at hg; exact absurd hg (by simp)
      · rw [if_neg q6] at hg; exact absurd hg (by simp)
    · rw [if_neg q5] at hg; exact absurd hg (by simp)
  rw [if_neg q4] at hg hF h
  by_cases q5 : o = true ∧ L k = 40
  · rw [if_pos q5] at hg hF h
    have hk3 := LOK_lt hL (k := k) (by omega)
    by_cases q8 : (S (k + 1)).1 = true
    · rw [if_pos q8] at hg hF h
      have ok := hS q5.1 (k + 1) (by omega) q8
      by_cases q9 : L (S (k + 1)).2.1 = 41
      · rw [if_pos q9] at hg hF h
        have hk4 := LOK_lt hL (k := (S (k + 1)).2.1) (by omega)
        have h' : RunW K m v len t (ngI g (valC env (S (k + 1)).2.2) :: vs) ss 0 ((S (k + 1)).2.1 + 1) := h
        have a1 := ok.1
        refine w_open hL hT hv hk3 q5.2 ?_
        refine hC q5.1 (k + 1) _ _ (by omega) (by omega) (by simp only [List.length_cons, hl]; omega) q8 (fol_of q9 rfl (by decide)) (by show rk 40 < 1; decide) (fun q z => absurd (List.cons.inj z).1 (by decide)) (fun vs' ss' hc' b1 b2 => ?_)
        exact w_shutP hL hT hv hk4 q9 hnt hc' (by omega) (by omega) h'
      · rw [if_neg q9] at hg; exact absurd hg (by simp)
    · rw [if_neg q8] at hg; exact absurd hg (by simp)
  · rw [if_neg q5] at hg; exact absurd hg (by simp)
theorem repl_app (n a : Nat) (l : List Nat) : List.replicate n a ++ a :: l = List.replicate (n + 1) a ++ l := by
  induction n with
  | zero => rfl
  | succ n ih => rw [List.replicate_succ, List.cons_append, ih]; rfl
theorem negs_W (hL : LOK L len) (hT : TX (m.1 1) v L len) (hv : v < 3) : ∀ (q k : Nat) (vs : List Int) (ss : List Nat), RunW K m v len t vs (List.replicate (ngN L q k) 126 ++ ss) 1 (k + ngN L q k) → RunW K m v len t vs ss 1 k := by
  intro q
  induction q with
  | zero => intro k vs ss h; exact h
  | succ q ih =>
    intro k vs ss h
    unfold ngN at h
    by_cases w : L k = 45
    · rw [if_pos w] at h
      refine w_neg hL hT hv (LOK_lt hL (by omega)) w (ih (k + 1) vs (126 :: ss) ?_)
      rw [repl_app, show k + 1 + ngN L q (k + 1) = k + (ngN L q (k + 1) + 1) by omega]
      exact h
    · rw [if_neg w] at h; exact h
theorem unit_W {S : Nat → RP} {o : Bool} (hL : LOK L len) (hT : TX (m.1 1) v L len) (hv : v < 3) (hE : ∀ p, p < 22 → bd2 (env p)) (hM : EnvM m t env) (hS : o = true → SOK S L len) (hB : o = true → SPr env L len S) (hC : o = true → CW K m v len L t env 1 S) : UW K m v len L t env (unitP S o L) := by
  intro k vs ss hk l1 l2 hg hF hnt h
  refine negs_W hL hT hv 80 k vs ss ?_
  have hgl := ngN_len hL 80 k hk
  unfold unitP at hg hF h
  by_cases q : (bareP S o L (k + ngN L 80 k)).1 = true
  · rw [if_pos q] at hg hF h
    have hp := bare_pr hE hL hS hB (k + ngN L 80 k) hgl q
    have h' : RunW K m v len t (valC env ((bareP S o L (k + ngN L 80 k)).2.2 ++ negs (ngN L 80 k)) :: vs) ss 0 (bareP S o L (k + ngN L 80 k)).2.1 := h
    rw [(okc_negs _ _ hp.2).2] at h'
    exact bare_W hL hT hv hE hM hS hB hC _ _ vs ss hgl (by omega) (by omega) q hF hnt h'
  · rw [if_neg q] at hg; exact absurd hg (by simp)
theorem row_fol {U : Nat → RP} {a b ka kb : Nat} (ha : isD a = false ∧ a ≠ 46) (hb : isD b = false ∧ b ≠ 46) : ∀ (q k : Nat) (c : List (Nat × Nat)), Fol L (rowP U L a b ka kb q k c).2.1 → Fol L k := by
  intro q k c
  match q with
  | 0 => exact id
  | q + 1 =>
    unfold rowP
    by_cases w : L k = a ∨ L k = b
    · intro _
      rcases w with w | w
      · exact fol_of w ha.1 ha.2
      · exact fol_of w hb.1 hb.2
    · rw [if_neg w]; exact id
theorem trow_W {U : Nat → RP} (hL : LOK L len) (hT : TX (m.1 1) v L len) (hv : v < 3) (hU : SOK U L len) (hB : SPr env L len U) (hW : UW K m v len L t env U) (vs : List Int) (ss : List Nat) (ht : topr ss < 2) : ∀ (q k : Nat) (c : List (Nat × Nat)) (vs1 : List Int) (ss1 : List Nat), k ≤ len → vs1.length ≤ k → ss1.length ≤ k → vs.length + 1 ≤ k → ss.length ≤ k → OKc env c → carry 2 ss1 vs1 = (valC env c :: vs, ss) → (rowP U L 42 47 4 5 q k c).1 = true → Fol L (rowP U L 42 47 4 5 q k c).2.1 → (∀ vs' ss', carry 2 ss' vs' = (valC env (rowP U L 42 47 4 5 q k c).2.2 :: vs, ss) → vs'.length ≤ (rowP U L 42 47 4 5 q k c).2.1 → ss'.length ≤ (rowP U L 42 47 4 5 q k c).2.1 → RunW K m v len t vs' ss' 0 (rowP U L 42 47 4 5 q k c).2.1) → RunW K m v len t vs1 ss1 0 k := by
  intro q
  induction q with
  | zero => intro k c vs1 ss1 hk b1 b2 b3 b4 hc hca hg hF h; exact h vs1 ss1 hca b1 b2
  | succ q ih =>
    intro k c vs1 ss1 hk b1 b2 b3 b4 hc hca hg hF h
    unfold rowP at hg hF h
    by_cases w : L k = 42 ∨ L k = 47
    · rw [if_pos w] at hg hF h
      have hkl := LOK_lt hL (k := k) (by omega)
      have hop : isOp (L k) := by unfold isOp; omega
      have hrk : rk (L k) = 2 := by
        rcases w with w | w
        · rw [w]; rfl
        · rw [w]; rfl
      by_cases q2 : (U (k + 1)).1 = true
      · rw [if_pos q2] at hg hF h
        have ok := hU (k + 1) (by omega) q2
        obtain ⟨u1, u2⟩ := hB (k + 1) (by omega) q2
        have a1 := ok.1
        have hb : isBin (if L k = 42 then 4 else 5) := by unfold isBin; split <;> decide
        obtain ⟨o1, o2⟩ := okc_bin hc u2 hb
        refine w_op hL hT hv hkl hop (by rw [hrk]; exact hca) (by rw [hrk]; exact ht) (by simp only [List.length_cons]; omega) b4 ?_
        refine hW (k + 1) _ _ (by omega) (by simp only [List.length_cons]; omega) (by simp only [List.length_cons]; omega) q2 (row_fol ⟨rfl, by decide⟩ ⟨rfl, by decide⟩ q _ _ hF) (fun r z => by have := (List.cons.inj z).1; omega) ?_
        refine ih _ _ _ _ ok.2.1 (by simp only [List.length_cons]; omega) (by simp only [List.length_cons]; omega) (by omega) (by omega) o1 ?_ hg hF h
        rw [carry_ge (by omega), o2, carry_top ht]
        have e : joinS (L k) (valC env c) (valC env (U (k + 1)).2.2) = joinZ (if L k = 42 then 4 else 5) (valC env c) (valC env (U (k + 1)).2.2) := by
          unfold joinS
          rw [if_neg (by omega), if_neg (by omega)]
        rw [e]
      · rw [if_neg q2] at hg; exact absurd hg (by simp)
    · rw [if_neg w] at hg hF h
      exact h vs1 ss1 hca b1 b2
theorem term_W {S : Nat → RP} {o : Bool} (hL : LOK L len) (hT : TX (m.1 1) v L len) (hv : v < 3) (hE : ∀ p, p < 22 → bd2 (env p)) (hM : EnvM m t env) (hS : o = true → SOK S L len) (hB : o = true → SPr env L len S) (hC : o = true → CW K m v len L t env 1 S) : CW K m v len L t env 2 (termP S o L) := by
  intro k vs ss hk l1 l2 hg hF ht hnt h
  unfold termP at hg hF h
  by_cases q : (unitP S o L k).1 = true
  · rw [if_pos q] at hg hF h
    have ok := unit_ok hL hS hk q
    have a1 := ok.1
    obtain ⟨u1, u2⟩ := unit_pr hE hL hS hB k hk q
    refine unit_W hL hT hv hE hM hS hB hC k vs ss hk l1 l2 q (row_fol ⟨rfl, by decide⟩ ⟨rfl, by decide⟩ 80 _ _ hF) hnt ?_
    exact trow_W hL hT hv (fun k hk => unit_ok hL hS hk) (unit_pr hE hL hS hB) (unit_W hL hT hv hE hM hS hB hC) vs ss ht 80 _ _ _ _ ok.2.1 (by simp only [List.length_cons]; omega) (by omega) (by omega) (by omega) u2 (carry_top ht) hg hF h
  · rw [if_neg q] at hg; exact absurd hg (by simp)
theorem srow_W {U : Nat → RP} (hL : LOK L len) (hT : TX (m.1 1) v L len) (hv : v < 3) (hU : SOK U L len) (hB : SPr env L len U) (hW : CW K m v len L t env 2 U) (vs : List Int) (ss : List Nat) (ht : topr ss < 1) : ∀ (q k : Nat) (c : List (Nat × Nat)) (vs1 : List Int) (ss1 : List Nat), k ≤ len → vs1.length ≤ k → ss1.length ≤ k → vs.length + 1 ≤ k → ss.length ≤ k → OKc env c → carry 1 ss1 vs1 = (valC env c :: vs, ss) → (rowP U L 43 45 2 3 q k c).1 = true → Fol L (rowP U L 43 45 2 3 q k c).2.1 → (∀ vs' ss', carry 1 ss' vs' = (valC env (rowP U L 43 45 2 3 q k c).2.2 :: vs, ss) → vs'.length ≤ (rowP U L 43 45 2 3 q k c).2.1 → ss'.length ≤ (rowP U L 43 45 2 3 q k c).2.1 → RunW K m v len t vs' ss' 0 (rowP U L 43 45 2 3 q k c).2.1) → RunW K m v len t vs1 ss1 0 k := by
  intro q
  induction q with
  | zero => intro k c vs1 ss1 hk b1 b2 b3 b4 hc hca hg hF h; exact h vs1 ss1 hca b1 b2
  | succ q ih =>
    intro k c vs1 ss1 hk b1 b2 b3 b4 hc hca hg hF h
    unfold rowP at hg hF h
    by_cases w : L k = 43 ∨ L k = 45
    · rw [if_pos w] at hg hF h
      have hkl := LOK_lt hL (k := k) (by omega)
      have hop : isOp (L k) := by unfold isOp; omega
      have hrk : rk (L k) = 1 := by
        rcases w with w | w
        · rw [w]; rfl
        · rw [w]; rfl
      by_cases q2 : (U (k + 1)).1 = true
      · rw [if_pos q2] at hg hF h
        have ok := hU (k + 1) (by omega) q2
        obtain ⟨u1, u2⟩ := hB (k + 1) (by omega) q2
        have a1 := ok.1
        have hb : isBin (if L k = 43 then 2 else 3) := by unfold isBin; split <;> decide
        obtain ⟨o1, o2⟩ := okc_bin hc u2 hb
        refine w_op hL hT hv hkl hop (by rw [hrk]; exact hca) (by rw [hrk]; exact ht) (by simp only [List.length_cons]; omega) b4 ?_
        refine hW (k + 1) _ _ (by omega) (by simp only [List.length_cons]; omega) (by simp only [List.length_cons]; omega) q2 (row_fol ⟨rfl, by decide⟩ ⟨rfl, by decide⟩ q _ _ hF) (by show rk (L k) < 2; omega) (fun r z => by have := (List.cons.inj z).1; omega) (fun vs' ss' hc' b5 b6 => ?_)
        refine ih _ _ _ _ ok.2.1 b5 b6 (by omega) (by omega) o1 ?_ hg hF h
        rw [carry_12 hc' (by show rk (L k) < 2; omega), carry_ge (by omega), o2, carry_top ht]
        have e : joinS (L k) (valC env c) (valC env (U (k + 1)).2.2) = joinZ (if L k = 43 then 2 else 3) (valC env c) (valC env (U (k + 1)).2.2) := by
          unfold joinS
          rcases w with w | w
          · rw [w]; rfl
          · rw [w]; rfl
        rw [e]
      · rw [if_neg q2] at hg; exact absurd hg (by simp)
    · rw [if_neg w] at hg hF h
      exact h vs1 ss1 hca b1 b2
theorem sumF_W {S : Nat → RP} {o : Bool} (hL : LOK L len) (hT : TX (m.1 1) v L len) (hv : v < 3) (hE : ∀ p, p < 22 → bd2 (env p)) (hM : EnvM m t env) (hS : o = true → SOK S L len) (hB : o = true → SPr env L len S) (hC : o = true → CW K m v len L t env 1 S) : CW K m v len L t env 1 (sumF S o L) := by
  intro k vs ss hk l1 l2 hg hF ht hnt h
  unfold sumF at hg hF h
  by_cases q : (termP S o L k).1 = true
  · rw [if_pos q] at hg hF h
    have ok := term_ok hL hS hk q
    have a1 := ok.1
    obtain ⟨u1, u2⟩ := term_pr hE hL hS hB k hk q
    refine term_W hL hT hv hE hM hS hB hC k vs ss hk l1 l2 q (row_fol ⟨rfl, by decide⟩ ⟨rfl, by decide⟩ 80 _ _ hF) (by omega) hnt (fun vs' ss' hc' b1 b2 => ?_)
    refine srow_W hL hT hv (fun k hk => term_ok hL hS hk) (term_pr hE hL hS hB) (term_W hL hT hv hE hM hS hB hC) vs ss ht 80 _ _ _ _ ok.2.1 b1 b2 (by omega) (by omega) u2 ?_ hg hF h
    rw [carry_12 hc' (by omega), carry_top ht]
  · rw [if_neg q] at hg; exact absurd hg (by simp)
theorem sum_W (hL : LOK L len) (hT : TX (m.1 1) v L len) (hv : v < 3) (hE : ∀ p, p < 22 → bd2 (env p)) (hM : EnvM m t env) : ∀ d, CW K m v len L t env 1 (sumP L d) := by
  intro d
  induction d with
  | zero => exact sumF_W hL hT hv hE hM (fun h => absurd h (by decide)) (fun h => absurd h (by decide)) (fun h => absurd h (by decide))
  | succ d ih => exact sumF_W hL hT hv hE hM (fun _ => sum_ok hL d) (fun _ => sum_pr hE hL d) (fun _ => ih)
theorem n_worksOut (hL : LOK L len) (hT : TX (m.1 1) v L len) (hv : v < 3) (hE : ∀ p, p < 22 → bd2 (env p)) (hM : EnvM m t env) (hg : (sumP L 6 0).1 = true) (he : (sumP L 6 0).2.1 = len) (h : ∀ y, SameV m y → K (lz (valC env (sumP L 6 0).2.2)) y) : wp_X10_worksOut m (nI v) t K := by
  intro s1 h1 s2 h2
  have hS : SameV m s2 := by rw [h2, h1]; exact SameV_t (SameV_29 _ _) (SameV_30 _ _)
  have hr : RunW K m v len t [] [] 1 0 := by
    refine sum_W hL hT hv hE hM 6 0 [] [] (by omega) (Nat.le_refl 0) (Nat.le_refl 0) hg ?_ (by show 0 < 1; decide) (fun q z => by cases z) (fun vs' ss' hc b1 b2 => ?_)
    · rw [he]; exact fol_of (hL.2.2 len (Nat.le_refl _)) rfl (by decide)
    · rw [he]; exact w_end hL hT hv hc h
  refine ⟨len + 1, hr (Nat.le_refl 0) (Nat.le_refl 0) s2 (len + 1) hS ⟨?_, ?_, trivial, trivial, trivial, fun c hc => by cases hc⟩ (by omega) (by omega)⟩
  · rw [h2, h1]; rfl
  · rw [h2, h1]; rfl
end
