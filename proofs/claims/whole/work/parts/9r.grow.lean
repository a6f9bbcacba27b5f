/-! ===== 9r growing: what is made beside leaves the cells as they are ===== -/
theorem eTc4 : ∀ k : Nat, k < 90 → eTc k = 4 → k = 20 := by decide +kernel
theorem fv_ext {B B' : jB} {σ σ' : jM} {k j : Nat} (hal : ∀ k i, okr B.2.1 k i → B'.1 k i = B.1 k i) (hM : okM B.2.1 σ) (hs : ∀ o, σ'.1 k j o = σ.1 k j o ∧ σ'.2.1 k j o = σ.2.1 k j o ∧ σ'.2.2 k j o = σ.2.2 k j o) (o : Nat) (h4 : ftc k o = 4 → okr B.2.1 (tkd k o) (sti k o j)) : fv B'.1 σ' k j o = fv B.1 σ k j o := by
  obtain ⟨s1, s2, s3⟩ := hs o
  unfold fv
  split
  · rw [s2]
  · rw [s3]
    cases hq : σ.2.2 k j o with
    | none => rfl
    | some i => simp only [Option.map_some]; rw [hal _ _ (hM.2.2 k j o i hq)]
  · rename_i e
    rw [hal _ _ (h4 e)]
  · rw [s1]
theorem cel_ext {B B' : jB} {σ σ' : jM} {k j : Nat} (hal : ∀ k i, okr B.2.1 k i → B'.1 k i = B.1 k i) (h20 : k = 20 → ∀ o, B'.1 8 (o + 3) = B.1 8 (o + 3)) (hB : B'.2.2.2.1 = B.2.2.2.1) (hC : clo B) (hM : okM B.2.1 σ) (hm : (k, j) ∈ B.2.1) (hs : ∀ o, σ'.1 k j o = σ.1 k j o ∧ σ'.2.1 k j o = σ.2.1 k j o ∧ σ'.2.2 k j o = σ.2.2 k j o) : cel B' σ' k j = cel B σ k j := by
  rcases hC k j hm with ⟨hk, h4⟩ | ⟨hk1, hk2, -, -⟩
  · rw [cel_o hk, cel_o hk]
    have e : fv B'.1 σ' k j = fv B.1 σ k j := funext (fun o => fv_ext hal hM hs o (h4 o))
    rw [e]
  · rw [cel_a (by omega), cel_a (by omega), hB]
    have e : ev_ B'.1 σ' k j = ev_ B.1 σ k j := by
      unfold ev_
      split
      · rw [show (fun o => Int64.ofInt (σ'.2.1 k j o)) = (fun o => Int64.ofInt (σ.2.1 k j o)) from funext (fun o => by rw [(hs o).2.1])]
      · rw [show (fun o => (σ'.2.2 k j o).map (B'.1 (tkd k o))) = (fun o => (σ.2.2 k j o).map (B.1 (tkd k o))) from funext (fun o => by
          rw [(hs o).2.2]
          cases hq : σ.2.2 k j o with
          | none => rfl
          | some i => simp only [Option.map_some]; rw [hal _ _ (hM.2.2 k j o i hq)])]
      · rename_i e
        have k20 := eTc4 k hk2 e
        rw [show (fun o => some (B'.1 (tkd k o) (sti k o j))) = (fun o => some (B.1 (tkd k o) (sti k o j))) from funext (fun o => by
          subst k20
          exact congrArg some (h20 rfl o))]
      · rw [show (fun o => Int32.ofInt (σ'.1 k j o)) = (fun o => Int32.ofInt (σ.1 k j o)) from funext (fun o => by rw [(hs o).1])]
    rw [e]
theorem wld_ext {B B' : jB} {σ σ' : jM} {D' : List (Nat × Nat)} (hD : B'.2.1 = B.2.1 ++ D') (hal : ∀ k i, okr B.2.1 k i → B'.1 k i = B.1 k i) (h20 : ∀ o, B'.1 8 (o + 3) = B.1 8 (o + 3)) (hB : B'.2.2.2.1 = B.2.2.2.1) (hC : clo B) (hM : okM B.2.1 σ) (hs : ∀ k j, (k, j) ∈ B.2.1 → ∀ o, σ'.1 k j o = σ.1 k j o ∧ σ'.2.1 k j o = σ.2.1 k j o ∧ σ'.2.2 k j o = σ.2.2 k j o) : wld B' σ' = wld B σ ++ D'.map (fun q => (B'.1 q.1 q.2, cel B' σ' q.1 q.2)) := by
  unfold wld
  rw [hD, List.map_append]
  congr 1
  refine List.map_congr_left (fun q hq => ?_)
  obtain ⟨k, j⟩ := q
  rw [hal k j (Or.inl hq), cel_ext hal (fun _ => h20) hB hC hM hq (hs k j hq)]
