/-! a trace: a number that what an object holds decides -/
def SamA (A A' : AB) : Prop := aG A' = aG A ∧ an A' = an A
theorem SamA_r (A : AB) : SamA A A := ⟨rfl, rfl⟩
section
variable {A A' : AB}
theorem sa_P (h : SamA A A') : aP A' = aP A := by unfold aP; rw [h.1]
theorem sa_T (h : SamA A A') : aT A' = aT A := by unfold aT; rw [h.1]
theorem sa_count (h : SamA A A') (a : Int32) : qr_count A' a = qr_count A a := by unfold qr_count; rw [sa_P h, sa_T h, h.1, h.2]
theorem sa_brk (h : SamA A A') (a b : Int32) : qr_brk A' a b = qr_brk A a b := by unfold qr_brk; rw [h.1]
theorem sa_step (h : SamA A A') (a b : Int32) : qr_step A' a b = qr_step A a b := by unfold qr_step; rw [sa_T h]
theorem sa_lag (h : SamA A A') (a b : Int32) : qr_lag A' a b = qr_lag A a b := by unfold qr_lag; rw [sa_P h]
theorem sa_value (h : SamA A A') (a b : Int32) : qr_value A' a b = qr_value A a b := by unfold qr_value; rw [sa_P h, sa_T h]
end
theorem q4 (A : AB) : qr_count A 4 = nI (aT A).1 := rfl
theorem q5 (A : AB) : qr_count A 5 = nI (qn (aG A)) := rfl
theorem tT (i : Nat) : (-600 : Int32) + nI (100 * i) + 100 = -600 + nI (100 * (i + 1)) := by
  rw [Int32.add_assoc, show (100 : Int32) = nI 100 from rfl, nI_add, Nat.mul_succ]
theorem tr176 (A : AB) (v : Int32) : ∀ (f i : Nat), f + i = 8 → i ≤ 7 → ∀ h : Int64, ∃ h2 : Int64, ∀ A', SamA A A' → ∀ (K : Int64 → Prop) (k : Int64 → Int32 → Prop), k h2 (v + 1) → lp_L_trace_176 A' K k f h v (-600 + nI (100 * i)) := by
  intro f
  induction f with
  | zero => intro i a b; omega
  | succ f ih =>
    intro i a b h
    by_cases e : i = 7
    · subst e
      refine ⟨h, fun A' hs K k hk => ⟨fun _ x7 h7 => ?_, fun q => absurd (by decide) q⟩⟩
      subst h7; exact hk
    · have hn : ¬ (0 : Int32) < -600 + nI (100 * i) := by
        have : i = 0 ∨ i = 1 ∨ i = 2 ∨ i = 3 ∨ i = 4 ∨ i = 5 ∨ i = 6 := by omega
        rcases this with e | e | e | e | e | e | e <;> (subst e; decide)
      obtain ⟨h2, hh⟩ := ih (i + 1) (by omega) (by omega) ((31 : Int64) * h + (qr_value A v (-600 + nI (100 * i))).toInt64)
      refine ⟨h2, fun A' hs K k hk => ⟨fun q => absurd q hn, fun _ x8 h8 x9 h9 => ?_⟩⟩
      rw [sa_value hs] at h8
      rw [tT] at h9
      subst h8; subst h9
      exact hh A' hs K k hk
theorem tr134 (A : AB) : ∀ (f i : Nat), f + i = 4 → i ≤ 3 → ∀ h : Int64, ∃ h2 : Int64, ∀ A', SamA A A' → ∀ (K : Int64 → Prop), K h2 → lp_L_trace_134 A' K f h (nI i) := by
  intro f
  induction f with
  | zero => intro i a b; omega
  | succ f ih =>
    intro i a b h
    by_cases e : i = 3
    · subst e
      exact ⟨h, fun A' hs K hk => ⟨fun _ => hk, fun q => absurd (by decide) q⟩⟩
    · have hn : ¬ (3 : Int32) ≤ nI i := fun q => by have := (nI_leI (a := 3) (by decide) (by omega)).mp q; omega
      obtain ⟨h1, hh1⟩ := tr176 A (nI i) 8 0 rfl (by decide) ((31 : Int64) * (((31 : Int64) * h) + ((qr_lag A (nI i) (1000 : Int32)).toInt64)) + ((qr_value A (nI i) (qr_count A (3 : Int32))).toInt64))
      obtain ⟨h2, hh2⟩ := ih (i + 1) (by omega) (by omega) h1
      refine ⟨h2, fun A' hs K hk => ⟨fun q => absurd q hn, fun _ x5 h5 => ⟨8, ?_⟩⟩⟩
      rw [sa_lag hs, sa_count hs, sa_value hs] at h5
      subst h5
      refine hh1 A' hs K _ ?_
      rw [nI_1]
      exact hh2 A' hs K hk
theorem tr98 (A : AB) (v : Int32) : ∀ (f i : Nat), f + i = 7 → i ≤ 6 → ∀ h : Int64, ∃ h2 : Int64, ∀ A', SamA A A' → ∀ (K : Int64 → Prop) (k : Int64 → Int32 → Prop), k h2 (v + 1) → lp_L_trace_98 A' K k f h v (nI i) := by
  intro f
  induction f with
  | zero => intro i a b; omega
  | succ f ih =>
    intro i a b h
    by_cases e : i = 6
    · subst e
      refine ⟨h, fun A' hs K k hk => ⟨fun _ x7 h7 => ?_, fun q => absurd (by decide) q⟩⟩
      subst h7; exact hk
    · have hn : ¬ (6 : Int32) ≤ nI i := fun q => by have := (nI_leI (a := 6) (by decide) (by omega)).mp q; omega
      obtain ⟨h2, hh⟩ := ih (i + 1) (by omega) (by omega) ((31 : Int64) * h + (qr_step A v (nI i)).toInt64)
      refine ⟨h2, fun A' hs K k hk => ⟨fun q => absurd q hn, fun _ x8 h8 x9 h9 => ?_⟩⟩
      rw [sa_step hs] at h8
      rw [nI_1] at h9
      subst h8; subst h9
      exact hh A' hs K k hk
theorem tr86 (A : AB) (hn : (aT A).1 < 1000) : ∀ (f i : Nat), f + i = (aT A).1 + 1 → i ≤ (aT A).1 → ∀ h : Int64, ∃ h2 : Int64, ∀ A', SamA A A' → ∀ (K : Int64 → Prop), K h2 → lp_L_trace_86 A' K f h (nI i) := by
  intro f
  induction f with
  | zero => intro i a b; omega
  | succ f ih =>
    intro i a b h
    by_cases e : i = (aT A).1
    · subst e
      obtain ⟨h2, hh⟩ := tr134 A 4 0 rfl (by decide) h
      refine ⟨h2, fun A' hs K hk => ⟨fun _ => ⟨4, hh A' hs K hk⟩, fun q => absurd ?_ q⟩⟩
      rw [sa_count hs, q4]
      exact nI_le (Nat.le_refl _) (by omega)
    · obtain ⟨h1, hh1⟩ := tr98 A (nI i) 6 1 rfl (by decide) h
      obtain ⟨h2, hh2⟩ := ih (i + 1) (by omega) (by omega) h1
      refine ⟨h2, fun A' hs K hk => ⟨fun q => ?_, fun _ => ⟨6, ?_⟩⟩⟩
      · rw [sa_count hs, q4] at q
        have := (nI_leI (by omega) (by omega)).mp q
        omega
      · refine hh1 A' hs K _ ?_
        rw [nI_1]
        exact hh2 A' hs K hk
theorem tr43 (A : AB) (hn : (aT A).1 < 1000) (hb : qn (aG A) < 1000) : ∀ (f i : Nat), f + i = qn (aG A) + 1 → i ≤ qn (aG A) → ∀ h : Int64, ∃ h2 : Int64, ∀ A', SamA A A' → ∀ (K : Int64 → Prop), K h2 → lp_L_trace_43 A' K f h (nI i) := by
  intro f
  induction f with
  | zero => intro i a b; omega
  | succ f ih =>
    intro i a b h
    by_cases e : i = qn (aG A)
    · subst e
      obtain ⟨h2, hh⟩ := tr86 A hn ((aT A).1 + 1) 0 rfl (Nat.zero_le _) h
      refine ⟨h2, fun A' hs K hk => ⟨fun _ => ⟨_, hh A' hs K hk⟩, fun q => absurd ?_ q⟩⟩
      rw [sa_count hs, q5]
      exact nI_le (Nat.le_refl _) (by omega)
    · obtain ⟨h2, hh2⟩ := ih (i + 1) (by omega) (by omega) ((31 : Int64) * (((31 : Int64) * h) + ((qr_brk A (nI i) (0 : Int32)).toInt64)) + ((qr_brk A (nI i) (2 : Int32)).toInt64))
      refine ⟨h2, fun A' hs K hk => ⟨fun q => ?_, fun _ x14 h14 x15 h15 => ?_⟩⟩
      · rw [sa_count hs, q5] at q
        have := (nI_leI (by omega) (by omega)).mp q
        omega
      · rw [sa_brk hs, sa_brk hs] at h14
        rw [nI_1] at h15
        subst h14; subst h15
        exact hh2 A' hs K hk
theorem tr6 (A : AB) (hn : (aT A).1 < 1000) (hb : qn (aG A) < 1000) : ∀ (f i : Nat), f + i = 16 → i ≤ 15 → ∀ h : Int64, ∃ h2 : Int64, ∀ A', SamA A A' → ∀ (K : Int64 → Prop), K h2 → lp_L_trace_6 A' K f h (nI i) := by
  intro f
  induction f with
  | zero => intro i a b; omega
  | succ f ih =>
    intro i a b h
    by_cases e : i = 15
    · subst e
      obtain ⟨h2, hh⟩ := tr43 A hn hb (qn (aG A) + 1) 0 rfl (Nat.zero_le _) h
      exact ⟨h2, fun A' hs K hk => ⟨fun _ => ⟨_, hh A' hs K hk⟩, fun q => absurd (by decide) q⟩⟩
    · have hl : ¬ (15 : Int32) ≤ nI i := fun q => by have := (nI_leI (a := 15) (by decide) (by omega)).mp q; omega
      by_cases e6 : i = 6
      · subst e6
        obtain ⟨h2, hh2⟩ := ih 7 (by omega) (by omega) ((31 : Int64) * h + (0 : Int32).toInt64)
        refine ⟨h2, fun A' hs K hk => ⟨fun q => absurd q hl, fun _ => ⟨fun q => absurd rfl q, fun _ x17 h17 x18 h18 => ?_⟩⟩⟩
        subst h17; subst h18
        exact hh2 A' hs K hk
      · obtain ⟨h2, hh2⟩ := ih (i + 1) (by omega) (by omega) ((31 : Int64) * h + (qr_count A (nI i)).toInt64)
        have n6 : ¬ nI i = 6 := fun q => e6 ((nI_eq (b := 6) (by omega) (by decide)).mp q)
        refine ⟨h2, fun A' hs K hk => ⟨fun q => absurd q hl, fun _ => ⟨fun _ => ⟨n6, fun x17 h17 x18 h18 => ?_⟩, fun q => absurd q n6⟩⟩⟩
        rw [sa_count hs] at h17
        rw [nI_1] at h18
        subst h17; subst h18
        exact hh2 A' hs K hk
theorem tr_ok {A : AB} (hA : AOK A) : (aT A).1 < 1000 ∧ qn (aG A) < 1000 := by
  have h1 := pth_n hA.1
  have h2 := (brk_ok hA.1.1 hA.1.2.1).1.1
  unfold aT
  omega
theorem n_trace {A : AB} (hA : AOK A) : ∃ v : Int64, ∀ A', SamA A A' → ∀ (K : Int64 → Prop), K v → wp_L_trace A' K := by
  obtain ⟨h1, h2⟩ := tr_ok hA
  obtain ⟨v, hv⟩ := tr6 A h1 h2 16 0 rfl (by decide) 17
  exact ⟨v, fun A' hs K hk => ⟨16, hv A' hs K hk⟩⟩
