/-! the rows of a path: each step by the problem and what is told -/
theorem evC_congr {env env' : Nat → Int} (h : ∀ p, p < 22 → env p = env' p) : ∀ (c : List (Nat × Nat)) (st : List Int), opB c → evC env c st = evC env' c st := by
  intro c
  induction c with
  | nil => intro st _; rfl
  | cons e r ih =>
    intro st hc
    have e1 : evS env st e = evS env' st e := by
      unfold evS
      by_cases q : e.1 = 1
      · rw [h e.2 (hc e List.mem_cons_self q)]
      · rw [if_neg q, if_neg q]
    show evC env r (evS env st e) = evC env' r (evS env' st e)
    rw [e1]
    exact ih _ (fun x hx => hc x (List.mem_cons_of_mem _ hx))
theorem valC_congr {env env' : Nat → Int} {c : List (Nat × Nat)} (hc : opB c) (h : ∀ p, p < 22 → env p = env' p) : valC env c = valC env' c := by
  unfold valC
  rw [evC_congr h c [] hc]
theorem told_cong {c : Nat → Nat} {T V : Nat → Nat → Int32} {n k v : Nat} {g g' : Nat → Int32} {t : Int32} (hP : POK n g) (hP' : POK k g') (hk : k ≤ n) (he : ∀ j, j < k * 8 + 4 → g' j = g j) (hv : v < 3) (ht : t.toInt ≤ (g (k * 8)).toInt) : toldZ c T V n g v t = toldZ c T V k g' v t ∧ tslpZ c T V n g v t = tslpZ c T V k g' v t := by
  unfold toldZ tslpZ
  by_cases h0 : 0 < t.toInt
  · rw [if_pos h0, if_pos h0, if_pos h0, if_pos h0]
    obtain ⟨a, b, d⟩ := stT_in hP' h0 (by rw [he _ (by omega)]; exact ht)
    generalize stT k g' t.toInt = s at a b d
    rw [he _ (by omega)] at b d
    have hn : t.toInt ≤ (g (n * 8)).toInt := by
      by_cases e : k = n
      · rw [← e]; exact ht
      · have := POK_mono hP (show k < n by omega) (Nat.le_refl n)
        omega
    rw [stT_uniq hP h0 hn (show s < n by omega) b d]
    unfold valZ slpZ bendG hG eG
    rw [he (s * 8) (by omega), he ((s + 1) * 8) (by omega), he (s * 8 + 1 + v) (by omega), he (s * 8 + 4 + v) (by omega), he ((s + 1) * 8 + 1 + v) (by omega)]
    exact ⟨rfl, rfl⟩
  · rw [if_neg h0, if_neg h0, if_neg h0, if_neg h0]
    exact ⟨rfl, rfl⟩
theorem stK_cong {P : PB} {n k t v : Nat} {g g' : Nat → Int32} (hPp : POKp P) (hP : POK n g) (hP' : POK k g') (hk : k ≤ n) (he : ∀ j, j < k * 8 + 4 → g' j = g j) (ht : g (k * 8) = nI t) (h8 : t ≤ 8000) (hv : v < 3) : stK P n t g v = stK P k t g' v := by
  have et : (nI t).toInt = (t : Int) := nI_int (by omega)
  unfold stK
  refine valC_congr (tx_opB (hPp.1 v hv)) (fun p hp => ?_)
  unfold env0 envF tvZ tsZ
  by_cases h3 : p < 3
  · rw [if_pos h3, if_pos h3]
    exact (told_cong hP hP' hk he h3 (by rw [ht]; exact Int.le_refl _)).1
  · rw [if_neg h3, if_neg h3]
    by_cases h4 : p = 3
    · rw [if_pos h4, if_pos h4]
    · rw [if_neg h4, if_neg h4]
      by_cases h13 : p < 13
      · rw [if_pos h13, if_pos h13]
        have hp := past_in hPp (show (p - 4) / 3 < 3 by omega) (t := nI t) (by omega) (by omega)
        exact (told_cong hP hP' hk he (show (p - 4) % 3 < 3 by omega) (by rw [ht]; exact hp.2.1)).1
      · rw [if_neg h13, if_neg h13]
        have hp := past_in hPp (show (p - 13) / 3 < 3 by omega) (t := nI t) (by omega) (by omega)
        exact (told_cong hP hP' hk he (show (p - 13) % 3 < 3 by omega) (by rw [ht]; exact hp.2.1)).2
theorem POK_pre {n k : Nat} {g : Nat → Int32} (h : POK n g) (hk : k ≤ n) : POK k g := ⟨h.1, by have := h.2.1; omega, fun s hs => h.2.2.1 s (by omega), fun s hs => h.2.2.2 s (by omega)⟩
theorem nextN_min {T : Nat → Nat} {t nb : Nat} (hs : Srt nb T) : ∀ f k, k + f = nb → ∀ i, k ≤ i → i < nb → T i ≤ t ∨ nextN T t f k ≤ T i := by
  intro f
  induction f with
  | zero => intro k h1 i h2 h3; omega
  | succ f ih =>
    intro k h1 i h2 h3
    rw [nextN_s]
    by_cases q : t < T k
    · rw [if_pos q]
      by_cases e : i = k
      · subst e; exact Or.inr (Nat.le_refl _)
      · have := Srt_lt hs (show k < i by omega) h3
        omega
    · rw [if_neg q]
      by_cases e : i = k
      · subst e; omega
      · exact ih (k + 1) (by omega) i (by omega) h3
def RowOK (P : PB) (T : Nat → Nat) (nb n : Nat) (g : Nat → Int32) : Prop := ∀ k, k < n → ∃ tn h : Nat, g (k * 8) = nI tn ∧ 1 ≤ h ∧ h ≤ bS P ∧ tn + h ≤ 8000 ∧ (∀ i, i < nb → T i ≤ tn ∨ tn + h ≤ T i) ∧ g ((k + 1) * 8) = nI (tn + h) ∧ (∀ v, v < 3 → g (k * 8 + 4 + v) = iz (stK P n tn g v)) ∧ g (k * 8 + 7) = nI (rdS P (nI tn + nI h) h)
theorem row_step {P : PB} {T : Nat → Nat} {nb e tgt : Nat} {st : PT} (hP : POKp P) (hB : BrT T nb) (hs : Srt nb T) (he : e < 512) (hG : GOK P T nb e st) (hR : RowOK P T nb st.1 st.2.2) (h1 : st.2.1 < tgt) (h8 : tgt ≤ 8000) : RowOK P T nb (st.1 + 1) (stepG P st.1 st.2.1 st.2.2 (hN P T nb st.2.1 tgt)) := by
  have hG2 := (GOK_step hP hB he hG h1 h8).1
  obtain ⟨q1, q2, q3, -⟩ := hN_ok (nb := nb) hP hB h1 h8
  have hle : hN P T nb st.2.1 tgt ≤ bS P ∧ hN P T nb st.2.1 tgt ≤ nextN T st.2.1 nb 0 - st.2.1 := by unfold hN; omega
  have hmin := nextN_min (t := st.2.1) hs nb 0 (by omega)
  generalize hN P T nb st.2.1 tgt = h at hG2 q1 q2 q3 hle
  obtain ⟨g1, g2, g3, g4, -⟩ := hG
  have pok2 : POK (st.1 + 1) (stepG P st.1 st.2.1 st.2.2 h) := hG2.1
  have old : ∀ k, k ≤ st.1 → ∀ j, j < k * 8 + 4 → st.2.2 j = stepG P st.1 st.2.1 st.2.2 h j := fun k hk j hj => (stepG_old (by omega)).symm
  intro k hk
  by_cases ek : k = st.1
  · subst ek
    refine ⟨st.2.1, h, by rw [stepG_old (by omega)]; exact g3, q1, hle.1, by omega, fun i hi => ?_, stepG_t, fun v hv => ?_, stepG_r⟩
    · rcases hmin i (Nat.zero_le _) hi with w | w
      · exact Or.inl w
      · omega
    · rw [stepG_k hv, stK_cong hP pok2 g1 (Nat.le_succ _) (old _ (Nat.le_refl _)) (by rw [stepG_old (by omega)]; exact g3) g4 hv]
  · obtain ⟨tn, h', a1, a2, a3, a4, a5, a6, a7, a8⟩ := hR k (by omega)
    have pk := POK_pre g1 (show k ≤ st.1 by omega)
    refine ⟨tn, h', by rw [stepG_old (by omega)]; exact a1, a2, a3, a4, a5, by rw [stepG_old (by omega)]; exact a6, fun v hv => ?_, by rw [stepG_old (by omega)]; exact a8⟩
    rw [stepG_old (by omega), a7 v hv, stK_cong hP g1 pk (by omega) (fun _ _ => rfl) a1 (by omega) hv, stK_cong hP pok2 pk (by omega) (old k (by omega)) (by rw [stepG_old (by omega)]; exact a1) (by omega) hv]
theorem goN_rows {P : PB} {T : Nat → Nat} {nb e tgt : Nat} (hP : POKp P) (hB : BrT T nb) (hs : Srt nb T) (he : e < 512) (h8 : tgt ≤ 8000) : ∀ (F : Nat) (st : PT), (st.2.1 < tgt → GOK P T nb e st) → RowOK P T nb st.1 st.2.2 → RowOK P T nb (goN P T nb F tgt st).1 (goN P T nb F tgt st).2.2 := by
  intro F
  induction F with
  | zero => intro st _ h; exact h
  | succ F ih =>
    intro st h1 h2
    unfold goN
    by_cases q : tgt ≤ st.2.1
    · rw [if_pos q]; exact h2
    · rw [if_neg q]
      exact ih _ (GOK_step hP hB he (h1 (by omega)) (by omega) h8).2 (row_step hP hB hs he (h1 (by omega)) h2 (by omega) h8)
theorem allN_rows {P : PB} {T : Nat → Nat} {nb ne : Nat} {E : Nat → Nat} (hP : POKp P) (hB : BrT T nb) (hs : Srt nb T) (hE : EnOK P T nb ne E) : ∀ k, k ≤ ne → RowOK P T nb (allN P T nb E k).1 (allN P T nb E k).2.2 := by
  intro k
  induction k with
  | zero => intro _ k hk; exact absurd hk (Nat.not_lt_zero k)
  | succ k ih =>
    intro hk
    have h := allN_ok hP hB hE k (by omega)
    have he := hE.2 k (by omega)
    have hn := hE.1
    exact goN_rows hP hB hs (by omega) he.2 8000 _ (fun _ => h) (ih (by omega))
theorem rowsA {A : AB} (hA : AOK A) : RowOK (aP A) (qT (aG A)) (qn (aG A)) (aT A).1 (aT A).2.2 := allN_rows hA.1.1 (brk_ok hA.1.1 hA.1.2.1).1 hA.1.2.1.2 hA.1.2.2.2 _ (Nat.le_refl _)
theorem endA {A : AB} (hA : AOK A) : (aT A).2.2 ((aT A).1 * 8) = nI (aT A).2.1 ∧ (aT A).2.1 ≤ 8000 ∧ (aT A).1 < 952 ∧ POK (aT A).1 (aT A).2.2 ∧ Row0 (aP A) (aT A).2.2 := ⟨(pth_ok hA.1).2.2.1, (pth_ok hA.1).2.2.2.1, pth_n hA.1, (pth_ok hA.1).1, (pth_ok hA.1).2.1⟩
