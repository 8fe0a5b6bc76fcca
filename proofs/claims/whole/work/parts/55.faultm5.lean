/-! the reference looks for the fault: units, and the whole -/
theorem bare_M {K : Int32 → RT → Prop} {S : Nat → RP} {L : Nat → Nat} {len o : Nat} (hL : LOK L len) (ho : o ≤ 6) (hS : o < 6 → SOK S L len) (hQ : o < 6 → ∀ k, k ≤ len → (S k).1 = true → Stop4 L (S k).2.1) (hM6 : o < 6 → SM K S L len (o + 1)) : SMB K (bareP S (decide (o < 6)) L) L len o := by
  intro y k hM hk h45 h
  by_cases q1 : isD (L k) = true
  · exact run_simple hL hM (Or.inl q1) h
  by_cases q2 : isNm (L k) = true
  · exact run_simple hL hM (Or.inr (Or.inl q2)) h
  by_cases q3 : L k = 116
  · exact run_simple hL hM (Or.inr (Or.inr q3)) h
  unfold bareP at h
  rw [if_neg q1, if_neg q2, if_neg q3] at h
  -- behind a sum in a bracket whose sign is 1
  have hshut : ∀ (p : Nat) (y' : RT), MT y' L len → o < 6 → p ≤ len → Stop4 L p → y'.1 21 o = 1 → (L p = 41 → Run K len y' o 0 (p + 1)) → (L p ≠ 41 → K (nI p) y') → Run K len y' (o + 1) 0 p := by
    intro p y' hM' o6 hp hst hs hc hn
    by_cases e : L p = 41
    · exact run_close hL hM' o6 e hs (hc e)
    · refine run_stop hL hM' (by omega) hp (fun w => ?_) (fun o' _ w => absurd w e) (fun o' ho' _ w => ?_) (fun _ => hn e) (fun _ w => by omega)
      · have a := hst.1.1
        have b := hst.1.2
        have c := hst.2.1
        have d := hst.2.2
        omega
      · have : o' = o := by omega
        rw [this, hs] at w
        exact absurd w (by decide)
  by_cases q4 : L k = 109
  · rw [if_pos q4] at h
    have hkeep : ∀ f i, i < o → (rI y 21 (upd (y.1 21) o f)).1 21 i = y.1 21 i := fun f i hi => by
      show upd (y.1 21) o f i = _
      exact if_neg (by omega)
    refine run_word hL hM ho q4 (fun w1 w2 o6 w3 => ?_) (fun w1 w2 w3 => ?_) (fun w1 f => ?_) (fun w1 w2 f => ?_)
    · rw [if_pos w1, if_pos w2, if_pos ⟨by simpa using o6, w3⟩] at h
      have hk3 := LOK_lt hL (k := k + 3) (by omega)
      have hG1 := SameG_s y (upd (y.1 21) o 2)
      refine hM6 o6 _ (k + 4) (MT_G hM hG1) (by omega) (fun y1 g1 s1 => ⟨fun q8 => ?_, fun q8 => ?_⟩)
      · rw [if_pos q8] at h
        have ok := hS o6 (k + 4) (by omega) q8
        have st := hQ o6 (k + 4) (by omega) q8
        have sg : y1.1 21 o = 2 := (s1 o (by omega)).trans (if_pos rfl)
        have hM1 := MT_G hM (SameG_t hG1 g1)
        by_cases q9 : L (S (k + 4)).2.1 = 44
        · rw [if_pos q9] at h
          have hk4 := LOK_lt hL (k := (S (k + 4)).2.1) (by omega)
          have hG2 := SameG_s y1 (upd (y1.1 21) o 1)
          refine run_comma hL hM1 o6 q9 sg (hM6 o6 _ _ (MT_G hM1 hG2) (by omega) (fun y2 g2 s2 => ⟨fun q10 => ?_, fun q10 => ?_⟩))
          · rw [if_pos q10] at h
            have ok2 := hS o6 ((S (k + 4)).2.1 + 1) (by omega) q10
            have sg2 : y2.1 21 o = 1 := (s2 o (by omega)).trans (if_pos rfl)
            have hGa := SameG_t hG1 (SameG_t g1 (SameG_t hG2 g2))
            have hsa : ∀ i, i < o → y2.1 21 i = y.1 21 i := fun i hi => ((s2 i (by omega)).trans (if_neg (by omega))).trans ((s1 i (by omega)).trans (if_neg (by omega)))
            refine hshut _ y2 (MT_G hM hGa) o6 ok2.2.1 (hQ o6 _ (by omega) q10) sg2 (fun e => ?_) (fun e => ?_)
            · rw [if_pos e] at h
              exact (h y2 hGa hsa).1 rfl
            · rw [if_neg e] at h
              exact (h y2 hGa hsa).2 rfl
          · rw [if_neg (show ¬ (S ((S (k + 4)).2.1 + 1)).1 = true by rw [q10]; decide)] at h
            exact (h y2 (SameG_t hG1 (SameG_t g1 (SameG_t hG2 g2))) (fun i hi => ((s2 i (by omega)).trans (if_neg (by omega))).trans ((s1 i (by omega)).trans (if_neg (by omega))))).2 rfl
        · rw [if_neg q9] at h
          refine run_stop hL hM1 (by omega) ok.2.1 (fun w => ?_) (fun o' ho' _ w => ?_) (fun _ _ w => absurd w q9) (fun _ => (h y1 (SameG_t hG1 g1) (fun i hi => (s1 i (by omega)).trans (if_neg (by omega)))).2 rfl) (fun _ w => by omega)
          · have a := st.1.1
            have b := st.1.2
            have c := st.2.1
            have d := st.2.2
            omega
          · have : o' = o := by omega
            rw [this, sg] at w
            exact absurd w (by decide)
      · rw [if_neg (show ¬ (S (k + 4)).1 = true by rw [q8]; decide)] at h
        exact (h y1 (SameG_t hG1 g1) (fun i hi => (s1 i (by omega)).trans (if_neg (by omega)))).2 rfl
    · rw [if_pos w1, if_pos w2, if_neg (fun w => w3 ⟨by simpa using w.1, w.2⟩)] at h
      exact (h y (SameG_r y) (fun _ _ => rfl)).2 rfl
    · rw [if_neg w1] at h
      exact (h _ (SameG_s y _) (hkeep f)).2 rfl
    · rw [if_pos w1, if_neg w2] at h
      exact (h _ (SameG_s y _) (hkeep f)).2 rfl
  rw [if_neg q4] at h
  by_cases q5 : L k = 40
  · have hk0 := LOK_lt hL (k := k) (by omega)
    have hG1 := SameG_s y (upd (y.1 21) o 1)
    refine run_open hL hM ho q5 (fun o6 => ?_) (fun o6 => ?_)
    · rw [if_pos ⟨by simpa using o6, q5⟩] at h
      refine hM6 o6 _ (k + 1) (MT_G hM hG1) (by omega) (fun y1 g1 s1 => ?_)
      have hGa := SameG_t hG1 g1
      have hsa : ∀ i, i < o → y1.1 21 i = y.1 21 i := fun i hi => (s1 i (by omega)).trans (if_neg (by omega))
      refine ⟨fun q8 => ?_, fun q8 => ?_⟩
      · rw [if_pos q8] at h
        have ok := hS o6 (k + 1) (by omega) q8
        refine hshut _ y1 (MT_G hM hGa) o6 ok.2.1 (hQ o6 _ (by omega) q8) ((s1 o (by omega)).trans (if_pos rfl)) (fun e => ?_) (fun e => ?_)
        · rw [if_pos e] at h
          exact (h y1 hGa hsa).1 rfl
        · rw [if_neg e] at h
          exact (h y1 hGa hsa).2 rfl
      · rw [if_neg (show ¬ (S (k + 1)).1 = true by rw [q8]; decide)] at h
        exact (h y1 hGa hsa).2 rfl
    · rw [if_neg (fun w => o6 (by simpa using w.1))] at h
      exact (h y (SameG_r y) (fun _ _ => rfl)).2 rfl
  · rw [if_neg (fun w => q5 w.2)] at h
    exact run_bad hL hM ho hk q1 q2 q3 q5 q4 h45 ((h y (SameG_r y) (fun _ _ => rfl)).2 rfl)
theorem sum_stop {L : Nat → Nat} {len : Nat} (hL : LOK L len) : ∀ d k, k ≤ len → (sumP L d k).1 = true → Stop4 L (sumP L d k).2.1 := by
  intro d
  cases d with
  | zero => intro k hk h; exact sumF_stop hL (fun h => absurd h (by decide)) hk h
  | succ d => intro k hk h; exact sumF_stop hL (fun _ => sum_ok hL d) hk h
theorem sum_M {K : Int32 → RT → Prop} {L : Nat → Nat} {len : Nat} (hL : LOK L len) : ∀ d o, o + d = 6 → SM K (sumP L d) L len o := by
  intro d
  induction d with
  | zero =>
    intro o ho
    have e : decide (o < 6) = false := by simp; omega
    have := bare_M (K := K) (S := fun k => (false, k, [])) hL (show o ≤ 6 by omega) (fun z => by omega) (fun z => by omega) (fun z => by omega)
    rw [e] at this
    exact sumF_M hL (fun z => absurd z (by decide)) this
  | succ d ih =>
    intro o ho
    have e : decide (o < 6) = true := by simp; omega
    have := bare_M (K := K) (S := sumP L d) hL (show o ≤ 6 by omega) (fun _ => sum_ok hL d) (fun _ => sum_stop hL d) (fun _ => ih (o + 1) (by omega))
    rw [e] at this
    exact sumF_M hL (fun _ => sum_ok hL d) this
