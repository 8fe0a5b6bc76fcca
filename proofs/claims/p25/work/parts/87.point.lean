/-! point -/
def insI (i : Nat) (x : Int32) (f : Nat → Int32) : Nat → Int32 := fun k => if k < i then f k else if k = i then x else f (k - 1)
def updF (f : Nat → Nat → Int32) (v : Nat) (g : Nat → Int32) : Nat → Nat → Int32 := fun j => if j = v then g else f j
theorem insI_lt {i k : Nat} {x : Int32} {f : Nat → Int32} (h : k < i) : insI i x f k = f k := if_pos h
theorem insI_eq {i : Nat} {x : Int32} {f : Nat → Int32} : insI i x f i = x := by unfold insI; rw [if_neg (by omega), if_pos rfl]
theorem insI_gt {i k : Nat} {x : Int32} {f : Nat → Int32} (h : i < k) : insI i x f k = f (k - 1) := by unfold insI; rw [if_neg (by omega), if_neg (by omega)]
theorem HOK_ins {c : Nat → Nat} {T V : Nat → Nat → Int32} {v : Nat} {t x : Int32} (hO : HOK c T V) (hv : v < 3) (hc : c v < 6) (ht : -10000 ≤ t.toInt ∧ t.toInt ≤ 0) (hx : -1000000 ≤ x.toInt ∧ x.toInt ≤ 1000000) (hn : ∀ k, k < c v → T v k ≠ t) : HOK (updT c v (c v + 1)) (updF T v (insI (upT (T v) t (c v)) t (T v))) (updF V v (insI (upT (T v) t (c v)) x (V v))) := by
  obtain ⟨u1, u2, u3⟩ := upT_ok (T v) t (c v)
  generalize upT (T v) t (c v) = u at u1 u2 u3
  intro e he
  unfold updT updF
  by_cases q : e = v
  · subst q
    rw [if_pos rfl, if_pos rfl, if_pos rfl]
    refine ⟨by omega, fun k hk => ?_, fun k hk => ?_⟩
    · by_cases k1 : k < u
      · rw [insI_lt k1, insI_lt k1]; exact (hO e he).2.1 k (by omega)
      · by_cases k2 : k = u
        · subst k2; rw [insI_eq, insI_eq]; omega
        · rw [insI_gt (by omega), insI_gt (by omega)]; exact (hO e he).2.1 (k - 1) (by omega)
    · by_cases k1 : k + 1 < u
      · rw [insI_lt k1, insI_lt (by omega)]; exact (hO e he).2.2 k (by omega)
      · by_cases k2 : k + 1 = u
        · subst k2
          rw [insI_eq, insI_lt (by omega)]
          have h1 := u2 k (by omega)
          have h2 := hn k (by omega)
          rw [i_lt] at h1 ⊢
          rw [ne_eq, i_eq] at h2
          omega
        · by_cases k3 : k = u
          · subst k3
            rw [insI_eq, insI_gt (by omega)]
            exact u3 (by omega)
          · rw [insI_gt (by omega), insI_gt (by omega)]
            have := (hO e he).2.2 (k - 1) (by omega)
            rw [show k - 1 + 1 = k + 1 - 1 by omega] at this
            exact this
  · rw [if_neg q, if_neg q, if_neg q]; exact hO e he
/-- the class: is there a point at this time -/
theorem n_hasPoint {s : RT} {c : Nat → Nat} {T V : Nat → Nat → Int32} {v : Nat} {t : Int32} {K : Int32 → Prop} (hX : HX s c T V) (hO : HOK c T V) (hv : v < 3) (h1 : (∃ k, k < c v ∧ T v k = t) → K 1) (h0 : (∀ k, k < c v → T v k ≠ t) → K 0) : wp_X1_hasPointAt s (nI v) t K := by
  have h6 := (hO v hv).1
  obtain ⟨u1, u2, u3⟩ := upT_ok (T v) t (c v)
  refine n_up hX hO hv ?_
  generalize upT (T v) t (c v) = u at u1 u2 u3
  have no : (0 < u → T v (u - 1) ≠ t) → ∀ k, k < c v → T v k ≠ t := by
    intro hu k hk e
    by_cases k1 : k < u
    · by_cases k2 : k = u - 1
      · subst k2; exact hu (by omega) e
      · have h2 := HOK_mono hO hv (show k < u - 1 by omega) (by omega)
        have h3 := u2 (u - 1) (by omega)
        rw [i_lt] at h3
        rw [e] at h2
        omega
    · have h2 := u3 (by omega)
      rw [i_lt] at h2
      by_cases k2 : k = u
      · subst k2; rw [e] at h2; omega
      · have h3 := HOK_mono hO hv (show u < k by omega) hk
        rw [e] at h3
        omega
  refine ⟨fun q => ?_, fun q => ?_⟩
  · have := (nI_leI (b := 0) (by omega) (by decide)).mp q
    exact h0 (no (fun w => by omega))
  · have hu : 0 < u := by
      rcases Nat.eq_zero_or_pos u with w | w
      · exact absurd (by rw [w]; exact nI_le (Nat.le_refl 0) (by decide)) q
      · exact w
    have e1 : nI v * 6 + nI u - 1 = nI (v * 6 + (u - 1)) := by
      rw [ix6, p1 (by omega)]; congr 1; omega
    rw [e1]
    refine n_pick (by decide) ?_
    rw [pk_n (by decide) (by omega), ((hX v hv).2 (u - 1) (by omega)).1]
    exact ⟨fun w => h0 (no (fun _ => w)), fun w => h1 ⟨u - 1, by omega, w⟩⟩
theorem n_addP {s : RT} {c : Nat → Nat} {T V : Nat → Nat → Int32} {v : Nat} {t x : Int32} {K : RT → Prop} (hX : HX s c T V) (hO : HOK c T V) (hv : v < 3) (hc : c v < 6) (h : ∀ s', HX s' (updT c v (c v + 1)) (updF T v (insI (upT (T v) t (c v)) t (T v))) (updF V v (insI (upT (T v) t (c v)) x (V v))) → (∀ k, k ≠ 9 → k ≠ 10 → k ≠ 11 → s'.1 k = s.1 k) → K s') : wp_X1_add s (nI v) t x K := by
  obtain ⟨u1, u2, u3⟩ := upT_ok (T v) t (c v)
  refine n_pick (by decide) ?_
  rw [pk_n (by decide) hv, (hX v hv).1]
  refine ⟨fun _ x3 e3 => ?_, fun q => absurd ((nI_ltI (b := 6) (by omega) (by decide)).mpr hc) q⟩
  have e3' : x3 = nI (v * 6) := by rw [e3, show (6 : Int32) = nI 6 from rfl, pk_mul]
  subst e3'
  refine n_up hX hO hv (fun x5 e5 => ?_)
  generalize upT (T v) t (c v) = u at h u1 u2 u3 e5
  rw [nI_add] at e5
  subst e5
  rw [nI_add]
  refine n_makeRoom (by decide) (by omega) (by omega) ?_
  intro s7 h7
  refine n_makeRoom (by decide) (by omega) (by omega) ?_
  intro s9 h9
  refine n_put (by decide) ?_
  rw [pt_n (by decide) (by omega)]
  intro s11 h11
  refine n_put (by decide) ?_
  rw [pt_n (by decide) (by omega)]
  intro s13 h13
  refine n_put (by decide) ?_
  rw [pt_n (by decide) hv]
  intro s15 h15
  have f10 : s15.1 10 = upd (mkroom (s.1 10) (v * 6 + u) (v * 6 + c v)) (v * 6 + u) t := by
    rw [h15, h13, h11, h9, h7]; rfl
  have f11 : s15.1 11 = upd (mkroom (s.1 11) (v * 6 + u) (v * 6 + c v)) (v * 6 + u) x := by
    rw [h15, h13, h11, h9, h7]; rfl
  have f9 : s15.1 9 = upd (s.1 9) v (nI (c v + 1)) := by
    rw [h15, h13, h11, h9, h7]
    show upd (s.1 9) v (nI (c v) + 1) = _
    rw [nI_1]
  have fo : ∀ k, k ≠ 9 → k ≠ 10 → k ≠ 11 → s15.1 k = s.1 k := by
    intro k k9 k10 k11
    rw [h15, h13, h11, h9, h7]
    show (if k = 9 then _ else if k = 11 then _ else if k = 10 then _ else if k = 11 then _ else if k = 10 then _ else s.1 k) = s.1 k
    rw [if_neg k9, if_neg k11, if_neg k10, if_neg k11, if_neg k10]
  refine h s15 (fun e he => ?_) fo
  rw [f9, f10, f11]
  have he6 := (hO e he).1
  unfold updT updF
  by_cases q : e = v
  · subst q
    rw [if_pos rfl, if_pos rfl, if_pos rfl, pk_us]
    refine ⟨rfl, fun k hk => ?_⟩
    by_cases k1 : k < u
    · rw [insI_lt k1, insI_lt k1, pk_un (by omega), pk_un (by omega)]
      unfold mkroom
      rw [if_neg (by omega), if_neg (by omega)]
      exact (hX e he).2 k (by omega)
    · by_cases k2 : k = u
      · subst k2; rw [insI_eq, insI_eq, pk_us, pk_us]; exact ⟨rfl, rfl⟩
      · rw [insI_gt (by omega), insI_gt (by omega), pk_un (by omega), pk_un (by omega)]
        unfold mkroom
        rw [if_pos (by omega), if_pos (by omega), show e * 6 + k - 1 = e * 6 + (k - 1) by omega]
        exact (hX e he).2 (k - 1) (by omega)
  · rw [if_neg q, if_neg q, if_neg q, pk_un q]
    refine ⟨(hX e he).1, fun k hk => ?_⟩
    rw [pk_un (by omega), pk_un (by omega)]
    unfold mkroom
    rw [if_neg (by omega), if_neg (by omega)]
    exact (hX e he).2 k hk
