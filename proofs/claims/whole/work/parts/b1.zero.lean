/-! ===== b1 the start: the state of new things ===== -/
theorem J_0 : J (0, 0) σI := by
  have z69 : ∀ p, σI.1 69 0 p = 0 := fun _ => rfl
  have w69 : (σI.1 69 0) = fun _ => 0 := rfl
  have p0 : ∀ k : Int, pgs (σI.1 69 0) k = 0 := fun k => rfl
  have b0 : ∀ k : Nat, bt 0 k = 0 := fun k => by unfold bt; rw [Int.zero_ediv]; rfl
  refine ⟨0, fun _ => 0, 0, 0, 0, 0, 0, fun _ => [], fun _ => [], [], [], rfl, ?_, ?_, ?_, ?_, ?_, ?_, ?_, ?_, ?_, ?_⟩
  · refine ⟨⟨0, -1, by omega, rfl, fun i hi => absurd hi (by omega), rfl, rfl⟩, ⟨by omega, by omega, by omega, fun i hi => absurd hi (by omega), fun i hi => absurd hi (by omega)⟩, rfl⟩
  · exact ⟨rfl, rfl, by omega, rfl, rfl, rfl, rfl, by omega, by omega, Or.inl ⟨rfl, rfl⟩⟩
  · refine ⟨⟨fun k hk => absurd hk (by omega), fun k hk => ⟨rfl, (b0 k).symm, (p0 k).symm⟩, ⟨rfl, rfl, rfl, rfl⟩, fun i hi => ?_, fun i hi => ?_⟩, ⟨fun k hk => absurd hk (by omega), fun k hk => ⟨⟨show (0 : Int) ≤ 0 by decide, show (0 : Int) ≤ 999 by decide⟩, fun _ => rfl⟩, ⟨by decide, by decide⟩, ⟨by decide, by decide⟩, ⟨by decide, by decide⟩, ⟨by decide, by decide⟩, fun i hi => ?_, ⟨by decide, by decide⟩, fun i hi => ?_⟩, fun i hi => ?_⟩
    all_goals (have h0 : (i : Int) < 0 := hi; omega)
  · refine ⟨⟨by simp, rfl, 0, by omega, rfl, fun i hi => absurd hi (by simp)⟩, fun V hV => absurd hV (by simp), rfl, fun i hi => absurd hi (by simp)⟩
  · exact Or.inl ⟨rfl, rfl⟩
  · exact ⟨rfl, rfl, rfl, fun i hi => absurd hi (by omega), rfl, by decide, by decide⟩
  · exact ⟨⟨by omega, fun i hi => absurd hi (by omega)⟩, fun i hi => Or.inl rfl, fun k hk => ⟨by show (-1000000 : Int) ≤ 0; decide, by show (0 : Int) ≤ 1000000; decide⟩⟩
  · exact ⟨by omega, rfl, rfl, rfl, fun i hi => absurd hi (by omega)⟩
  · exact ⟨⟨by simp [NOK], by simp [NC]; rfl, rfl, fun k hk => absurd hk (by omega), rfl⟩, fun q hq => absurd hq (by simp), rfl, fun i hi => absurd hi (by simp)⟩
  · exact ⟨rfl, by decide, by decide⟩
theorem okM_I {D : List (Nat × Nat)} (h50 : (5, 0) ∈ D) (h51 : (5, 1) ∈ D) (h30 : (3, 0) ∈ D) (h10 : (1, 0) ∈ D) (h60 : (60, 0) ∈ D) : okM D σI := by
  refine ⟨fun k j o => ?_, fun k j o => ⟨show (-9223372036854775808 : Int) ≤ 0 by decide, show (0 : Int) < 9223372036854775808 by decide⟩, fun k j o i hi => ?_⟩
  · show inR (bl k o)
    unfold bl
    repeat' split
    all_goals exact ⟨by decide, by decide⟩
  · have hi : br k o = some i := hi
    unfold br at hi
    split at hi
    · split at hi
      · rename_i e
        cases hi
        rcases e with e | e | e <;> subst e
        · exact Or.inl h50
        · exact Or.inl h30
        · exact Or.inl h10
      · split at hi
        · rename_i e; subst e; cases hi; exact Or.inl h51
        · cases hi
    · split at hi
      · rename_i e; subst e; cases hi; exact Or.inl h60
      · cases hi
    · cases hi
def nwAll : List (Nat × Nat) := (nw9 ++ nwM) ++ [(51, 0)]
theorem nwAll_inv : Dinv nwAll 0 0 := by
  have h : ∀ q ∈ nwAll, ((q.1 = 3 ∨ (23 ≤ q.1 ∧ q.1 ≤ 25)) → (q.2 : Int) ≤ 0) ∧ ((q.1 = 1 ∨ q.1 = 21 ∨ q.1 = 22) → (q.2 : Int) ≤ 0) ∧ q.1 ≠ 4 := by decide +kernel
  exact fun k j hm => h (k, j) hm
theorem c9_all : ∀ k j, (k, j) ∈ nw9 → cin nw9 k j := by
  intro k j h
  rcases List.mem_cons.mp h with e | h
  · cases e
    refine Or.inl ⟨by decide, fun o ho => ?_⟩
    unfold ftc at ho
    simp only at ho
    split at ho
    all_goals first | (exact absurd ho (by decide)) | (exact Or.inl (by decide +kernel))
  · exact (c9_13 k j h).mono (fun q hq => List.mem_cons_of_mem _ hq)
theorem m9_all : ∀ k j, (k, j) ∈ nw9 → ∀ o i, br k o = some i → okr nw9 (tkd k o) i := by
  intro k j h o i hb
  rcases List.mem_cons.mp h with e | h
  · cases e
    unfold br at hb
    simp only at hb
    split at hb
    · rename_i e
      cases hb
      rcases e with e | e | e <;> subst e <;> exact Or.inl (by decide +kernel)
    · split at hb
      · rename_i e; subst e; cases hb; exact Or.inl (by decide +kernel)
      · cases hb
  · exact okr_mono (fun q hq => List.mem_cons_of_mem _ hq) (m9_13 k j h o i hb)
theorem cM_all : ∀ k j, (k, j) ∈ nwM → cin (nw9 ++ nwM) k j := by
  intro k j h
  by_cases z : k < 11
  · have e : (k, j) = (10, 0) := by
      have : ∀ q ∈ nwM, q.1 < 11 → q = (10, 0) := by decide +kernel
      exact this (k, j) h z
    cases e
    refine Or.inl ⟨by decide, fun o ho => ?_⟩
    have hlt : o < 48 := by
      refine Classical.byContradiction (fun w => ?_)
      unfold ftc at ho
      simp only at ho
      split at ho
      all_goals first | (exact absurd ho (by decide)) | omega
    have : ∀ o, o < 48 → ftc 10 o = 4 → (tkd 10 o, sti 10 o 0) ∈ nw9 ++ nwM ∨ (tkd 10 o = 90 ∧ sti 10 o 0 < 7) := by decide +kernel
    rcases this o hlt ho with z | z
    · exact Or.inl z
    · exact Or.inr (Or.inl z)
  · have : ∀ q ∈ nwM, ¬ q.1 < 11 → 11 ≤ q.1 ∧ q.1 < 90 ∧ eCl q.1 < 6 ∧ eTc q.1 ≠ 4 := by decide +kernel
    obtain ⟨g1, g2, g3, g4⟩ := this (k, j) h z
    exact Or.inr ⟨g1, g2, g3, fun e => absurd e g4⟩
theorem f9M : ∀ q ∈ nw9, q ∉ nwM := by decide +kernel
theorem n9M : ∀ q ∈ nwM, q.1 < 90 := by decide +kernel
theorem h9M : ∀ j, (20, j) ∈ nw9 → ∀ o, (8, o + 3) ∉ nwM := fun _ _ o z => by simp [nwM] at z
theorem nwAll_in : (9, 0) ∈ nwAll ∧ (10, 0) ∈ nwAll ∧ (51, 0) ∈ nwAll ∧ (5, 0) ∈ nwAll ∧ (5, 1) ∈ nwAll ∧ (3, 0) ∈ nwAll ∧ (1, 0) ∈ nwAll ∧ (60, 0) ∈ nwAll := by decide +kernel
theorem f51 : ∀ q ∈ nw9 ++ nwM, q ∉ [((51, 0) : Nat × Nat)] := by decide +kernel
theorem cMall : ∀ k j, (k, j) ∈ nw9 ++ nwM → cin (nw9 ++ nwM) k j := cin_app c9_all cM_all
theorem mMall : ∀ k j, (k, j) ∈ nw9 ++ nwM → ∀ o i, br k o = some i → okr (nw9 ++ nwM) (tkd k o) i := br_app m9_all (fun k j h o i hb => by
  by_cases z : k = 10
  · subst z
    unfold br at hb
    simp only at hb
    split at hb
    · rename_i e; subst e; cases hb; exact Or.inl (by decide +kernel)
    · cases hb
  · have : ∀ q ∈ nwM, q.1 ≠ 9 := by decide +kernel
    have g2 := this (k, j) h
    simp only at g2
    unfold br at hb
    split at hb
    · exact absurd rfl g2
    · exact absurd rfl z
    · cases hb)
theorem cAll : ∀ k j, (k, j) ∈ nwAll → cin nwAll k j := cin_app cMall (fun k j h => by cases List.mem_singleton.mp h; exact Or.inr ⟨by decide, by decide, by decide, fun e => absurd e (by decide)⟩)
