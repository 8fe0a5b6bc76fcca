/-! fits, types, rights, goes -/
theorem n_fits {A : AB} {a : Int32} {K : Int32 → Prop} (hA : AOK A) (hK : K 1) : wp_L_fits A a K := by
  obtain ⟨v, hv⟩ := n_trace hA
  refine hv A (SamA_r A) _ (n_breaksFit hA ⟨fun q => absurd q (by decide), fun _ => n_stepsFit hA ⟨fun q => absurd q (by decide), fun _ => n_valuesFit (v := 0) hA (by decide) ⟨fun q => absurd q (by decide), fun _ => n_valuesFit (v := 1) hA (by decide) ⟨fun q => absurd q (by decide), fun _ => n_valuesFit (v := 2) hA (by decide) ⟨fun q => absurd q (by decide), fun _ => ?_⟩⟩⟩⟩⟩)
  exact ⟨fun q => absurd q (by decide), fun _ => hv A (SamA_r A) _ ⟨fun q => absurd (lgc_eq.mpr rfl) q, fun _ => hK⟩⟩
theorem n_types {A : AB} {a b c d : Int32} {K : AB → Prop} (hK : K A) : wp_L_types A a b c d K := by
  have h26 : jp_L_types_26 a b c d K A := ⟨fun _ => hK, fun _ _ => hK⟩
  have h16 : jp_L_types_16 a b c d K A := ⟨fun _ => h26, fun _ _ => h26⟩
  exact fun _ => ⟨fun _ => h16, fun _ _ => h16⟩
theorem lowK {v : Int32} {m : Nat} {K : Int32 → Prop} (h0 : 0 < m) (hm : m < 2147483648) (h : ∀ r, K r) : wp_L_low v (nI m) K := n_low h0 hm (h _)
/-- what a turn's call leaves -/
def GoR (A : AB) (w : Nat) (v : Int32) (A2 : AB) : Prop := AOK A2 ∧ aj A2 ≤ aj A + 1 ∧ ((ErrV v ∧ SamA A A2) ∨ (¬ ErrV v ∧ (w = 6 ∨ w = 11 ∨ ∃ G, A2 = pushA A G)))
theorem GoR_C {A A2 : AB} {w : Nat} {v : Int32} (h : RelC A v A2) (ok : AOK A2) : GoR A w v A2 := by
  refine ⟨ok, ?_, ?_⟩
  · rcases h with ⟨_, e⟩ | ⟨_, G, e⟩
    · rw [e]; omega
    · rw [e]; exact Nat.le_refl _
  · rcases h with ⟨h1, e⟩ | ⟨h1, h2⟩
    · exact Or.inl ⟨h1, by rw [e]; exact SamA_r A⟩
    · exact Or.inr ⟨h1, Or.inr (Or.inr h2)⟩
theorem GoR_U {A A2 : AB} {v : Int32} (hA : AOK A) (h : RelU A v A2) (ok : AOK A2) : GoR A 6 v A2 := by
  have h4 := hA.2.1
  refine ⟨ok, ?_, ?_⟩
  · rcases h with ⟨_, _, e⟩ | ⟨_, _, e⟩
    · rw [e]; omega
    · rw [e]; exact Nat.le_succ _
  · rcases h with ⟨_, h1, e⟩ | ⟨_, h1, e⟩
    · exact Or.inl ⟨by rw [h1]; exact err2, by rw [e]; exact SamA_r A⟩
    · exact Or.inr ⟨noErr (by rw [h1, nI_int (by omega)]; omega), Or.inl rfl⟩
theorem GoR_S {A A2 : AB} {v : Int32} (h : RelS A v A2) (ok : AOK A2) : GoR A 11 v A2 := by
  refine ⟨ok, ?_, ?_⟩
  · rcases h with ⟨_, e⟩ | ⟨_, i, _, e⟩
    · rw [e]; omega
    · rw [e]; exact Nat.le_succ _
  · rcases h with ⟨h1, e⟩ | ⟨h1, _⟩
    · exact Or.inl ⟨h1, by rw [e]; exact SamA_r A⟩
    · exact Or.inr ⟨h1, Or.inr (Or.inl rfl)⟩
theorem n_rights {A : AB} {a b : Int32} {w : Nat} {K : Int32 → AB → Prop} (hK : ∀ v A2, GoR A w v A2 → K v A2) : wp_L_rights A a b K := by
  have h290 : jp_L_rights_290 a b K A := by
    intro r7
    refine n_near (m := 3) (by decide) (by decide) (fun r8 r9 A10 hr ok => ?_)
    have hj : aj A10 ≤ aj A + 1 := by
      rcases hr with ⟨_, e⟩ | ⟨_, G, e⟩
      · rw [e]; omega
      · rw [e]; exact Nat.le_refl _
    have bad : ∀ v : Int32, (v = -2000000001 ∨ v = -2000000002) → A10 = A → K v A10 := fun v hv e => hK v A10 ⟨ok, hj, Or.inl ⟨hv.elim (fun q => by rw [q]; exact err1) (fun q => by rw [q]; exact err2), by rw [e]; exact SamA_r A⟩⟩
    refine ⟨fun _ => ⟨fun q => ?_, fun q => ⟨fun q2 => ?_, fun q2 => ?_⟩⟩, fun _ => ?_⟩
    · rcases hr with ⟨_, e⟩ | ⟨h1, _⟩
      · exact bad _ (Or.inr rfl) e
      · exact absurd (by rw [q]; exact err2) h1
    · rcases hr with ⟨h1, _⟩ | ⟨_, h2⟩
      · exact absurd h1 (fun z => z.elim q2 q)
      · exact hK 0 A10 ⟨ok, hj, Or.inr ⟨noErr (by decide), Or.inr (Or.inr h2)⟩⟩
    · rcases hr with ⟨_, e⟩ | ⟨h1, _⟩
      · exact bad _ (Or.inr rfl) e
      · exact absurd (by rw [q2]; exact err1) h1
    · rcases hr with ⟨h1, e⟩ | ⟨h1, h2⟩
      · exact bad _ h1 e
      · exact hK r9 A10 ⟨ok, hj, Or.inr ⟨h1, Or.inr (Or.inr h2)⟩⟩
  have key : ∀ (f i n : Nat), n ≤ 5 → f + i = n → lp_L_rights_16 a b K (f + 1) (nI n) (nI i) A := by
    intro f
    induction f with
    | zero =>
      intro i n hn e
      refine ⟨fun _ => lowK (m := 9) (by decide) (by decide) (fun r5 => ⟨fun _ => h290, fun _ => n_types h290⟩), fun q => absurd (nI_le (by omega) (by omega)) q⟩
    | succ f ih =>
      intro i n hn e
      have nx : ∀ x : Int32, x = nI i + 1 → lp_L_rights_16 a b K (f + 1) (nI n) x A := fun x hx => by
        rw [nI_1] at hx
        subst hx
        exact ih (i + 1) n hn (by omega)
      have h193 : ∀ x5, jp_L_rights_193 a b K (fun v0 v1 v2 => lp_L_rights_16 a b K (f + 1) v0 v1 v2) (nI n) (nI i) x5 A := fun x5 => lowK (m := 3) (by decide) (by decide) (fun _ => lowK (m := 3) (by decide) (by decide) (fun _ => n_types nx))
      have h109 : ∀ x5, jp_L_rights_109 a b K (fun v0 v1 v2 => lp_L_rights_16 a b K (f + 1) v0 v1 v2) (nI n) (nI i) x5 A := fun x5 => lowK (m := 6) (by decide) (by decide) (fun r19 => ⟨fun _ => lowK (m := 10) (by decide) (by decide) (fun _ => n_types nx), fun _ => ⟨fun _ => lowK (m := 3) (by decide) (by decide) (fun _ => n_types nx), fun _ => ⟨fun _ => h193 x5, fun _ => ⟨fun _ => h193 x5, fun _ => ⟨fun _ => lowK (m := 3) (by decide) (by decide) (fun _ => lowK (m := 3) (by decide) (by decide) (fun _ => n_types nx)), fun _ => n_types nx⟩⟩⟩⟩⟩)
      have h88 : ∀ x5, jp_L_rights_88 a b K (fun v0 v1 v2 => lp_L_rights_16 a b K (f + 1) v0 v1 v2) (nI n) (nI i) x5 A := fun x5 => lowK (m := 7) (by decide) (by decide) (fun _ => ⟨fun _ => h109 x5, fun _ => n_types (h109 x5)⟩)
      have h82 : ∀ x5 t, jp_L_rights_82 a b K (fun v0 v1 v2 => lp_L_rights_16 a b K (f + 1) v0 v1 v2) (nI n) (nI i) x5 t A := fun x5 t => n_types (h88 x5)
      refine ⟨fun _ => lowK (m := 9) (by decide) (by decide) (fun r5 => ⟨fun _ => h290, fun _ => n_types h290⟩), fun _ x15 _ => ⟨fun _ => h88 x15, fun _ => lowK (m := 4) (by decide) (by decide) (fun _ => ⟨fun _ => lowK (m := 4) (by decide) (by decide) (fun _ => ⟨fun _ => lowK (m := 4) (by decide) (by decide) (fun _ => ⟨fun _ => h82 x15 _, fun _ => h82 x15 _⟩), fun _ => h82 x15 _⟩), fun _ => h82 x15 _⟩)⟩⟩
  intro r1
  refine n_low (m := 4) (by decide) (by decide) (fun x3 h3 => ?_)
  have hl : lowN b 4 < 4 := lowN_lt (by decide)
  rw [show (1 : Int32) = nI 1 from rfl, nI_add] at h3
  subst h3
  exact ⟨_, key (1 + lowN b 4) 0 (1 + lowN b 4) (by omega) rfl⟩
theorem n_goes {A : AB} {a b : Int32} {K : Int32 → AB → Prop} (hA : AOK A) (hj : aj A < 512) (hK : ∀ v A2, GoR A (lowN a 12) v A2 → K v A2) : wp_L_goes A a b K := by
  have hl : lowN a 12 < 12 := lowN_lt (by decide)
  have hC : ∀ v A2, RelC A v A2 → AOK A2 → K v A2 := fun v A2 h ok => hK v A2 (GoR_C h ok)
  have h64 : jp_L_goes_64 a b K A := n_rights (fun v A2 h => hK v A2 h)
  have h111 : ∀ t0 t1, jp_L_goes_111 a b K t0 t1 A := fun t0 t1 => n_near (m := 3) (by decide) (by decide) (fun _ => ⟨fun _ => hC, fun _ => lowK (m := 1801) (by decide) (by decide) (fun _ => hC)⟩)
  have h166 : ∀ (m : Nat) (t1 t2 : Int32), 0 < m → m < 2147483648 → jp_L_goes_166 a b K (nI m) t1 t2 A := fun m t1 t2 h0 hm => lowK h0 hm (fun _ => lowK (m := 9) (by decide) (by decide) (fun _ => ⟨fun _ => lowK (m := 4001) (by decide) (by decide) (fun _ => hC), fun _ => hC⟩))
  have h140 : jp_L_goes_140 a b K A := n_near (m := 3) (by decide) (by decide) (fun _ => lowK (m := 3) (by decide) (by decide) (fun _ => ⟨fun _ => h166 400 _ _ (by decide) (by decide), fun _ => h166 10001 _ _ (by decide) (by decide)⟩))
  have h276 : jp_L_goes_276 a b K A := n_near (m := 9) (by decide) (by decide) (fun _ => ⟨fun _ => lowK (m := 300) (by decide) (by decide) (fun _ => ⟨hj, hC⟩), fun _ => n_near (m := 2001) (by decide) (by decide) (fun _ => ⟨hj, hC⟩)⟩)
  have ne : ∀ c : Nat, c < 2147483648 → ¬ nI (lowN a 12) = nI c → lowN a 12 ≠ c := fun c _ h e => h (by rw [e])
  refine n_low (m := 12) (by decide) (by decide) ⟨fun _ => h64, fun n0 => ⟨fun _ => h64, fun n1 => ⟨fun _ => h64, fun n2 => ⟨fun _ => ?_, fun n3 => ⟨fun _ => h140, fun n4 => ⟨fun _ => h140, fun n5 => ⟨fun e6 => ?_, fun n6 => ⟨fun _ => ?_, fun n7 => ⟨fun _ => h276, fun n8 => ⟨fun _ => h276, fun n9 => ⟨fun _ => h276, fun n10 => ?_⟩⟩⟩⟩⟩⟩⟩⟩⟩⟩⟩
  · exact n_near (m := 3) (by decide) (by decide) (fun _ => lowK (m := 4) (by decide) (by decide) (fun _ => ⟨fun _ => lowK (m := 260) (by decide) (by decide) (fun _ => h111 _ _), fun _ => n_near (m := 5001) (by decide) (by decide) (fun _ => h111 _ _)⟩))
  · have e : lowN a 12 = 6 := (nI_eq (b := 6) (by omega) (by decide)).mp e6
    rw [e] at hK
    exact lowK (m := 4) (by decide) (by decide) (fun _ => ⟨fun _ v A2 h ok => hK v A2 (GoR_U hA h ok), fun _ => n_near (m := 3) (by decide) (by decide) (fun _ => hC)⟩)
  · exact n_near (m := 3) (by decide) (by decide) (fun _ => ⟨fun _ => ⟨fun _ => n_near (m := 4) (by decide) (by decide) (fun _ => hC), fun _ => n_near (m := 5) (by decide) (by decide) (fun _ => hC)⟩, fun _ => n_near (m := 200) (by decide) (by decide) (fun _ => hC)⟩)
  · have e : lowN a 12 = 11 := by
      have d0 := ne 0 (by decide) n0
      have d1 := ne 1 (by decide) n1
      have d2 := ne 2 (by decide) n2
      have d3 := ne 3 (by decide) n3
      have d4 := ne 4 (by decide) n4
      have d5 := ne 5 (by decide) n5
      have d6 := ne 6 (by decide) n6
      have d7 := ne 7 (by decide) n7
      have d8 := ne 8 (by decide) n8
      have d9 := ne 9 (by decide) n9
      have d10 := ne 10 (by decide) n10
      omega
    rw [e] at hK
    exact lowK (m := 2) (by decide) (by decide) (fun _ => ⟨fun _ => n_near (m := 2) (by decide) (by decide) (fun _ => hC), fun _ => n_near (m := 2) (by decide) (by decide) (fun _ v A2 h ok => hK v A2 (GoR_S h ok))⟩)
