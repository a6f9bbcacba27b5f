/-! ===== 9v growing: things that are made join the memory ===== -/
def σI : jM := (fun k _ o => bl k o, fun _ _ _ => 0, fun k _ o => br k o)
theorem Blk_I (D : List (Nat × Nat)) : Blk D σI := fun _ _ _ => ⟨rfl, rfl, rfl⟩
/-- what a thing points to is there -/
def cin (D : List (Nat × Nat)) (k j : Nat) : Prop := (k < 11 ∧ ∀ o, ftc k o = 4 → okr D (tkd k o) (sti k o j)) ∨ (11 ≤ k ∧ k < 90 ∧ eCl k < 6 ∧ (eTc k = 4 → ∀ o, o < jln k j → okr D (tkd k o) (sti k o j)))
theorem okr_mono {D D' : List (Nat × Nat)} (h : ∀ q ∈ D, q ∈ D') {k j : Nat} : okr D k j → okr D' k j := fun z => z.elim (fun z => Or.inl (h _ z)) Or.inr
theorem cin.mono {D D' : List (Nat × Nat)} (h : ∀ q ∈ D, q ∈ D') {k j : Nat} (z : cin D k j) : cin D' k j :=
  z.elim (fun ⟨a, b⟩ => Or.inl ⟨a, fun o ho => okr_mono h (b o ho)⟩) (fun ⟨a, b, c, d⟩ => Or.inr ⟨a, b, c, fun e o ho => okr_mono h (d e o ho)⟩)
theorem cin_1 {j : Nat} : ∀ k i, (k, i) ∈ nwD 1 j → cin (nwD 1 j) k i := by
  intro k i h
  simp only [nwD, List.mem_cons, Prod.mk.injEq, List.not_mem_nil, or_false] at h
  rcases h with ⟨rfl, rfl⟩ | ⟨rfl, rfl⟩ | ⟨rfl, rfl⟩
  · refine Or.inl ⟨by decide, fun o ho => ?_⟩
    unfold ftc at ho
    simp only at ho
    split at ho
    all_goals first | (exact absurd ho (by decide)) | (exact Or.inl (by simp [nwD, tkd, sti]))
  · exact Or.inr ⟨by decide, by decide, by decide, fun e => absurd e (by decide)⟩
  · exact Or.inr ⟨by decide, by decide, by decide, fun e => absurd e (by decide)⟩
theorem brn_1 {j : Nat} : ∀ k i, (k, i) ∈ nwD 1 j → ∀ o, br k o = none := by
  intro k i h o
  simp only [nwD, List.mem_cons, Prod.mk.injEq, List.not_mem_nil, or_false] at h
  rcases h with ⟨rfl, rfl⟩ | ⟨rfl, rfl⟩ | ⟨rfl, rfl⟩ <;> rfl
theorem lt9_1 {j : Nat} : ∀ q ∈ nwD 1 j, q.1 < 90 := by
  intro q h
  simp only [nwD, List.mem_cons, List.not_mem_nil, or_false] at h
  rcases h with rfl | rfl | rfl <;> exact Nat.le_of_ble_eq_true rfl
theorem dfl_1 : ∀ j, j < jn 1 → defaultValue (jY 1 j) = vp_V [.null, .null, .int 0] j := by decide +kernel
theorem cin_2 {j : Nat} : ∀ k i, (k, i) ∈ nwD 2 j → cin (nwD 2 j) k i := by
  intro k i h
  simp only [nwD, List.mem_cons, Prod.mk.injEq, List.not_mem_nil, or_false] at h
  rcases h with ⟨rfl, rfl⟩
  · refine Or.inl ⟨by decide, fun o ho => ?_⟩
    unfold ftc at ho
    simp only at ho
    all_goals first | (exact absurd ho (by decide)) | (split at ho <;> simp at ho)
theorem brn_2 {j : Nat} : ∀ k i, (k, i) ∈ nwD 2 j → ∀ o, br k o = none := by
  intro k i h o
  simp only [nwD, List.mem_cons, Prod.mk.injEq, List.not_mem_nil, or_false] at h
  rcases h with ⟨rfl, rfl⟩ <;> rfl
theorem lt9_2 {j : Nat} : ∀ q ∈ nwD 2 j, q.1 < 90 := by
  intro q h
  simp only [nwD, List.mem_cons, List.not_mem_nil, or_false] at h
  rcases h with rfl <;> exact Nat.le_of_ble_eq_true rfl
theorem dfl_2 : ∀ j, j < jn 2 → defaultValue (jY 2 j) = vp_V [.long 0] j := by decide +kernel
theorem cin_3 {j : Nat} : ∀ k i, (k, i) ∈ nwD 3 j → cin (nwD 3 j) k i := by
  intro k i h
  simp only [nwD, List.mem_cons, Prod.mk.injEq, List.not_mem_nil, or_false] at h
  rcases h with ⟨rfl, rfl⟩ | ⟨rfl, rfl⟩ | ⟨rfl, rfl⟩ | ⟨rfl, rfl⟩
  · refine Or.inl ⟨by decide, fun o ho => ?_⟩
    unfold ftc at ho
    simp only at ho
    split at ho
    all_goals first | (exact absurd ho (by decide)) | (exact Or.inl (by simp [nwD, tkd, sti]))
  · exact Or.inr ⟨by decide, by decide, by decide, fun e => absurd e (by decide)⟩
  · exact Or.inr ⟨by decide, by decide, by decide, fun e => absurd e (by decide)⟩
  · exact Or.inr ⟨by decide, by decide, by decide, fun e => absurd e (by decide)⟩
theorem brn_3 {j : Nat} : ∀ k i, (k, i) ∈ nwD 3 j → ∀ o, br k o = none := by
  intro k i h o
  simp only [nwD, List.mem_cons, Prod.mk.injEq, List.not_mem_nil, or_false] at h
  rcases h with ⟨rfl, rfl⟩ | ⟨rfl, rfl⟩ | ⟨rfl, rfl⟩ | ⟨rfl, rfl⟩ <;> rfl
theorem lt9_3 {j : Nat} : ∀ q ∈ nwD 3 j, q.1 < 90 := by
  intro q h
  simp only [nwD, List.mem_cons, List.not_mem_nil, or_false] at h
  rcases h with rfl | rfl | rfl | rfl <;> exact Nat.le_of_ble_eq_true rfl
theorem dfl_3 : ∀ j, j < jn 3 → defaultValue (jY 3 j) = vp_V [.null, .null, .null, .int 0] j := by decide +kernel
theorem cin_5 {j : Nat} : ∀ k i, (k, i) ∈ nwD 5 j → cin (nwD 5 j) k i := by
  intro k i h
  simp only [nwD, List.mem_cons, Prod.mk.injEq, List.not_mem_nil, or_false] at h
  rcases h with ⟨rfl, rfl⟩ | ⟨rfl, rfl⟩ | ⟨rfl, rfl⟩ | ⟨rfl, rfl⟩ | ⟨rfl, rfl⟩ | ⟨rfl, rfl⟩ | ⟨rfl, rfl⟩ | ⟨rfl, rfl⟩ | ⟨rfl, rfl⟩
  · refine Or.inl ⟨by decide, fun o ho => ?_⟩
    unfold ftc at ho
    simp only at ho
    split at ho
    all_goals first | (exact absurd ho (by decide)) | (exact Or.inl (by simp [nwD, tkd, sti]))
  · exact Or.inr ⟨by decide, by decide, by decide, fun e => absurd e (by decide)⟩
  · exact Or.inr ⟨by decide, by decide, by decide, fun e => absurd e (by decide)⟩
  · exact Or.inr ⟨by decide, by decide, by decide, fun e => absurd e (by decide)⟩
  · exact Or.inr ⟨by decide, by decide, by decide, fun e => absurd e (by decide)⟩
  · exact Or.inr ⟨by decide, by decide, by decide, fun e => absurd e (by decide)⟩
  · exact Or.inr ⟨by decide, by decide, by decide, fun e => absurd e (by decide)⟩
  · exact Or.inr ⟨by decide, by decide, by decide, fun e => absurd e (by decide)⟩
  · exact Or.inr ⟨by decide, by decide, by decide, fun e => absurd e (by decide)⟩
theorem brn_5 {j : Nat} : ∀ k i, (k, i) ∈ nwD 5 j → ∀ o, br k o = none := by
  intro k i h o
  simp only [nwD, List.mem_cons, Prod.mk.injEq, List.not_mem_nil, or_false] at h
  rcases h with ⟨rfl, rfl⟩ | ⟨rfl, rfl⟩ | ⟨rfl, rfl⟩ | ⟨rfl, rfl⟩ | ⟨rfl, rfl⟩ | ⟨rfl, rfl⟩ | ⟨rfl, rfl⟩ | ⟨rfl, rfl⟩ | ⟨rfl, rfl⟩ <;> rfl
theorem lt9_5 {j : Nat} : ∀ q ∈ nwD 5 j, q.1 < 90 := by
  intro q h
  simp only [nwD, List.mem_cons, List.not_mem_nil, or_false] at h
  rcases h with rfl | rfl | rfl | rfl | rfl | rfl | rfl | rfl | rfl <;> exact Nat.le_of_ble_eq_true rfl
theorem dfl_5 : ∀ j, j < jn 5 → defaultValue (jY 5 j) = vp_V [.null, .null, .null, .null, .null, .null, .null, .null, .int 0, .int 0, .int 0, .int 0, .int 0] j := by decide +kernel
theorem cin_6 {j : Nat} : ∀ k i, (k, i) ∈ nwD 6 j → cin (nwD 6 j) k i := by
  intro k i h
  simp only [nwD, List.mem_cons, Prod.mk.injEq, List.not_mem_nil, or_false] at h
  rcases h with ⟨rfl, rfl⟩ | ⟨rfl, rfl⟩ | ⟨rfl, rfl⟩ | ⟨rfl, rfl⟩ | ⟨rfl, rfl⟩ | ⟨rfl, rfl⟩ | ⟨rfl, rfl⟩
  · refine Or.inl ⟨by decide, fun o ho => ?_⟩
    unfold ftc at ho
    simp only at ho
    split at ho
    all_goals first | (exact absurd ho (by decide)) | (exact Or.inl (by simp [nwD, tkd, sti]))
  · exact Or.inr ⟨by decide, by decide, by decide, fun e => absurd e (by decide)⟩
  · exact Or.inr ⟨by decide, by decide, by decide, fun e => absurd e (by decide)⟩
  · exact Or.inr ⟨by decide, by decide, by decide, fun e => absurd e (by decide)⟩
  · exact Or.inr ⟨by decide, by decide, by decide, fun e => absurd e (by decide)⟩
  · exact Or.inr ⟨by decide, by decide, by decide, fun e => absurd e (by decide)⟩
  · exact Or.inr ⟨by decide, by decide, by decide, fun e => absurd e (by decide)⟩
theorem brn_6 {j : Nat} : ∀ k i, (k, i) ∈ nwD 6 j → ∀ o, br k o = none := by
  intro k i h o
  simp only [nwD, List.mem_cons, Prod.mk.injEq, List.not_mem_nil, or_false] at h
  rcases h with ⟨rfl, rfl⟩ | ⟨rfl, rfl⟩ | ⟨rfl, rfl⟩ | ⟨rfl, rfl⟩ | ⟨rfl, rfl⟩ | ⟨rfl, rfl⟩ | ⟨rfl, rfl⟩ <;> rfl
theorem lt9_6 {j : Nat} : ∀ q ∈ nwD 6 j, q.1 < 90 := by
  intro q h
  simp only [nwD, List.mem_cons, List.not_mem_nil, or_false] at h
  rcases h with rfl | rfl | rfl | rfl | rfl | rfl | rfl <;> exact Nat.le_of_ble_eq_true rfl
theorem dfl_6 : ∀ j, j < jn 6 → defaultValue (jY 6 j) = vp_V [.null, .null, .null, .null, .null, .null, .int 0, .int 0, .int 0] j := by decide +kernel
theorem cin_7 {j : Nat} : ∀ k i, (k, i) ∈ nwD 7 j → cin (nwD 7 j) k i := by
  intro k i h
  simp only [nwD, List.mem_cons, Prod.mk.injEq, List.not_mem_nil, or_false] at h
  rcases h with ⟨rfl, rfl⟩ | ⟨rfl, rfl⟩
  · refine Or.inl ⟨by decide, fun o ho => ?_⟩
    unfold ftc at ho
    simp only at ho
    split at ho
    all_goals first | (exact absurd ho (by decide)) | (exact Or.inl (by simp [nwD, tkd, sti]))
  · exact Or.inr ⟨by decide, by decide, by decide, fun e => absurd e (by decide)⟩
theorem brn_7 {j : Nat} : ∀ k i, (k, i) ∈ nwD 7 j → ∀ o, br k o = none := by
  intro k i h o
  simp only [nwD, List.mem_cons, Prod.mk.injEq, List.not_mem_nil, or_false] at h
  rcases h with ⟨rfl, rfl⟩ | ⟨rfl, rfl⟩ <;> rfl
theorem lt9_7 {j : Nat} : ∀ q ∈ nwD 7 j, q.1 < 90 := by
  intro q h
  simp only [nwD, List.mem_cons, List.not_mem_nil, or_false] at h
  rcases h with rfl | rfl <;> exact Nat.le_of_ble_eq_true rfl
theorem dfl_7 : ∀ j, j < jn 7 → defaultValue (jY 7 j) = vp_V [.null, .int 0, .int 0, .int 0] j := by decide +kernel
theorem cin_8 {j : Nat} : ∀ k i, (k, i) ∈ nwD 8 j → cin (nwD 8 j) k i := by
  intro k i h
  simp only [nwD, List.mem_cons, Prod.mk.injEq, List.not_mem_nil, or_false] at h
  rcases h with ⟨rfl, rfl⟩ | ⟨rfl, rfl⟩ | ⟨rfl, rfl⟩ | ⟨rfl, rfl⟩ | ⟨rfl, rfl⟩ | ⟨rfl, rfl⟩ | ⟨rfl, rfl⟩ | ⟨rfl, rfl⟩ | ⟨rfl, rfl⟩
  · refine Or.inl ⟨by decide, fun o ho => ?_⟩
    unfold ftc at ho
    simp only at ho
    split at ho
    all_goals first | (exact absurd ho (by decide)) | (exact Or.inl (by simp [nwD, tkd, sti]))
  · exact Or.inr ⟨by decide, by decide, by decide, fun e => absurd e (by decide)⟩
  · exact Or.inr ⟨by decide, by decide, by decide, fun e => absurd e (by decide)⟩
  · exact Or.inr ⟨by decide, by decide, by decide, fun e => absurd e (by decide)⟩
  · exact Or.inr ⟨by decide, by decide, by decide, fun e => absurd e (by decide)⟩
  · exact Or.inr ⟨by decide, by decide, by decide, fun e => absurd e (by decide)⟩
  · exact Or.inr ⟨by decide, by decide, by decide, fun e => absurd e (by decide)⟩
  · exact Or.inr ⟨by decide, by decide, by decide, fun e => absurd e (by decide)⟩
  · exact Or.inr ⟨by decide, by decide, by decide, fun e => absurd e (by decide)⟩
theorem brn_8 {j : Nat} : ∀ k i, (k, i) ∈ nwD 8 j → ∀ o, br k o = none := by
  intro k i h o
  simp only [nwD, List.mem_cons, Prod.mk.injEq, List.not_mem_nil, or_false] at h
  rcases h with ⟨rfl, rfl⟩ | ⟨rfl, rfl⟩ | ⟨rfl, rfl⟩ | ⟨rfl, rfl⟩ | ⟨rfl, rfl⟩ | ⟨rfl, rfl⟩ | ⟨rfl, rfl⟩ | ⟨rfl, rfl⟩ | ⟨rfl, rfl⟩ <;> rfl
theorem lt9_8 {j : Nat} : ∀ q ∈ nwD 8 j, q.1 < 90 := by
  intro q h
  simp only [nwD, List.mem_cons, List.not_mem_nil, or_false] at h
  rcases h with rfl | rfl | rfl | rfl | rfl | rfl | rfl | rfl | rfl <;> exact Nat.le_of_ble_eq_true rfl
theorem dfl_8 : ∀ j, j < jn 8 → defaultValue (jY 8 j) = vp_V [.null, .null, .null, .null, .null, .null, .null, .null, .int 0, .int 0, .int 0, .int 0] j := by decide +kernel
theorem dfl_0 : ∀ j, j < jn 0 → defaultValue (jY 0 j) = vp_V [.null, .int 0, .int 0] j := by decide +kernel
theorem dfl_4 : ∀ j, j < jn 4 → defaultValue (jY 4 j) = vp_V [.null, .null] j := by decide +kernel
theorem dfl_9 : ∀ j, j < jn 9 → defaultValue (jY 9 j) = vp_V [.null, .int 0, .null, .null, .null, .null, .null, .null, .null, .null, .null, .null, .null, .null, .int 0, .int 0, .int 0, .int 0] j := by decide +kernel
theorem dfl_10 : ∀ j, j < jn 10 → defaultValue (jY 10 j) = vp_V (.int 0 :: .null :: .null :: .null :: .null :: .null :: .int 0 :: .int 0 :: .int 0 :: .int 0 :: .int 0 :: .int 0 :: .int 0 :: .int 0 :: .int 0 :: .null :: .null :: .int 0 :: .null :: .null :: .null :: .null :: .null :: .null :: .null :: .null :: .int 0 :: .int 0 :: .int 0 :: .int 0 :: .int 0 :: .int 0 :: .null :: .null :: .int 0 :: .int 0 :: .null :: .null :: .null :: .int 0 :: .long 0 :: .null :: .null :: .null :: .int 0 :: .null :: .null :: .int 0 :: []) j := by decide +kernel

theorem fv_al {al al' : Nat → Nat → Nat} {σ : jM} {D : List (Nat × Nat)} {k j : Nat} (hal : ∀ k i, okr D k i → al' k i = al k i) (o : Nat) (h3 : ∀ i, σ.2.2 k j o = some i → okr D (tkd k o) i) (h4 : ftc k o = 4 → okr D (tkd k o) (sti k o j)) : fv al' σ k j o = fv al σ k j o := by
  unfold fv
  split
  · rfl
  · cases hq : σ.2.2 k j o with
    | none => rfl
    | some i => simp only [Option.map_some]; rw [hal _ _ (h3 i hq)]
  · rename_i e
    rw [hal _ _ (h4 e)]
  · rfl
theorem cel_al {al al' : Nat → Nat → Nat} {r : va_G × (Nat → ClassId) × Nat} {σ : jM} {D D1 D2 : List (Nat × Nat)} {k j : Nat} (hal : ∀ k i, okr D k i → al' k i = al k i) (h20 : k = 20 → ∀ o, al' 8 (o + 3) = al 8 (o + 3)) (hC : cin D k j) (hM : ∀ o i, σ.2.2 k j o = some i → okr D (tkd k o) i) : cel (al', D1, r) σ k j = cel (al, D2, r) σ k j := by
  rcases hC with ⟨hk, h4⟩ | ⟨hk1, hk2, -, -⟩
  · rw [cel_o hk, cel_o hk]
    have e : fv al' σ k j = fv al σ k j := funext (fun o => fv_al hal o (hM o) (h4 o))
    show Sum.inr (k, (List.range (jn k)).map (fv al' σ k j)) = Sum.inr (k, (List.range (jn k)).map (fv al σ k j))
    rw [e]
  · rw [cel_a (by omega), cel_a (by omega)]
    have e : ev_ al' σ k j = ev_ al σ k j := by
      unfold ev_
      split
      · rfl
      · rw [show (fun o => (σ.2.2 k j o).map (al' (tkd k o))) = (fun o => (σ.2.2 k j o).map (al (tkd k o))) from funext (fun o => by
          cases hq : σ.2.2 k j o with
          | none => rfl
          | some i => simp only [Option.map_some]; rw [hal _ _ (hM o i hq)])]
      · rename_i e
        have k20 := eTc4 k hk2 e
        rw [show (fun o => some (al' (tkd k o) (sti k o j))) = (fun o => some (al (tkd k o) (sti k o j))) from funext (fun o => by
          subst k20
          exact congrArg some (h20 rfl o))]
      · rfl
    show Sum.inl (r.2.1 (eCl k), jln k j, ev_ al' σ k j) = Sum.inl (r.2.1 (eCl k), jln k j, ev_ al σ k j)
    rw [e]
theorem wld_al {al al' : Nat → Nat → Nat} {r : va_G × (Nat → ClassId) × Nat} {σ : jM} {D : List (Nat × Nat)} (hal : ∀ k i, okr D k i → al' k i = al k i) (h20 : ∀ j, (20, j) ∈ D → ∀ o, al' 8 (o + 3) = al 8 (o + 3)) (hC : ∀ k j, (k, j) ∈ D → cin D k j) (hM : ∀ k j, (k, j) ∈ D → ∀ o i, σ.2.2 k j o = some i → okr D (tkd k o) i) : wld (al', D, r) σ = wld (al, D, r) σ := by
  unfold wld
  refine List.map_congr_left (fun q hq => ?_)
  obtain ⟨k, j⟩ := q
  show (al' k j, cel (al', D, r) σ k j) = (al k j, cel (al, D, r) σ k j)
  rw [hal k j (Or.inl hq), cel_al hal (fun e => h20 j (e ▸ hq)) (hC k j hq) (hM k j hq)]
theorem cel_D {al : Nat → Nat → Nat} {r : va_G × (Nat → ClassId) × Nat} {σ : jM} {D1 D2 : List (Nat × Nat)} {k j : Nat} : cel (al, D1, r) σ k j = cel (al, D2, r) σ k j := rfl
theorem wld_app {al : Nat → Nat → Nat} {r : va_G × (Nat → ClassId) × Nat} {σ : jM} {D D' : List (Nat × Nat)} : wld (al, D ++ D', r) σ = wld (al, D, r) σ ++ wld (al, D', r) σ := by
  unfold wld
  exact List.map_append
theorem cel_eq {B : jB} {σ τ : jM} {k j : Nat} (h : ∀ o, σ.1 k j o = τ.1 k j o ∧ σ.2.1 k j o = τ.2.1 k j o ∧ σ.2.2 k j o = τ.2.2 k j o) : cel B σ k j = cel B τ k j := by
  have e1 : fv B.1 σ k j = fv B.1 τ k j := funext (fun o => by simp only [fv, (h o).1, (h o).2.1, (h o).2.2])
  have f1 : (fun o => Int32.ofInt (σ.1 k j o)) = (fun o => Int32.ofInt (τ.1 k j o)) := funext (fun o => by rw [(h o).1])
  have f2 : (fun o => Int64.ofInt (σ.2.1 k j o)) = (fun o => Int64.ofInt (τ.2.1 k j o)) := funext (fun o => by rw [(h o).2.1])
  have f3 : (fun o => (σ.2.2 k j o).map (B.1 (tkd k o))) = (fun o => (τ.2.2 k j o).map (B.1 (tkd k o))) := funext (fun o => by rw [(h o).2.2])
  have e2 : ev_ B.1 σ k j = ev_ B.1 τ k j := by unfold ev_; rw [f1, f2, f3]
  unfold cel
  rw [e1, e2]
theorem wld_blk {al : Nat → Nat → Nat} {r : va_G × (Nat → ClassId) × Nat} {σ : jM} {D : List (Nat × Nat)} (h : ∀ k i, (k, i) ∈ D → ∀ o, σ.1 k i o = bl k o ∧ σ.2.1 k i o = 0 ∧ σ.2.2 k i o = br k o) : wld (al, D, r) σ = wld (al, D, r) σI := by
  unfold wld
  refine List.map_congr_left (fun q hq => ?_)
  obtain ⟨k, i⟩ := q
  rw [cel_eq (σ := σ) (τ := σI) (h k i hq)]
theorem wld_cons {al : Nat → Nat → Nat} {r : va_G × (Nat → ClassId) × Nat} {σ : jM} {q : Nat × Nat} {D : List (Nat × Nat)} : wld (al, q :: D, r) σ = (al q.1 q.2, cel (al, [], r) σ q.1 q.2) :: wld (al, D, r) σ := rfl
section A3
variable {X : jX} {own : String} {cc : ByteArray} {N pc cells slots : Nat} {L : List (Nat × Value)} {st : List Value} {w : va_W}
theorem b_make {M : jMT} {K j ixn ixi mc ms d : Nat} {fs : List Value} {D : List (Nat × Nat)} {al : Nat → Nat → Nat} (h : Cx X own cc N) (hR : Rm X d) (hk : K < 11) (h1 : Cond.classLink own ixn (jR K) ∈ lw_tbl) (h2 : Cond.instantiable (jR K) (jn K) ∈ lw_tbl) (h3 : Cond.initialized (jR K) ∈ lw_tbl) (hfs : ∀ j, j < jn K → defaultValue (jY K j) = vp_V fs j) (hv : VI M 0) (hlk : mlk own ixi M) (hal : ∀ k, 90 ≤ k → al k = (xB X).1 k)
    (hcn : ∀ (l : Launch) (B : jB) (ws : va_W) (h0 : Nat), Met l M.1 [.code M.1 M.2.1 M.2.2.1 M.2.2.2] (rmc d mc ms) (PcN B (ws ++ [(h0, .inr (K, fs))]) [.ref h0]) (QcN B (Nw B ws D K j h0)) mc ms (sysA B))
    (d1 : decode cc pc = .ok (.new ixn, 3)) (d2 : decode cc (pc + 3) = .ok (.dup, 1)) (d3 : decode cc (pc + 4) = .ok (.invokespecial ixi, 3)) (h8 : (st.map fun v => v.category).sum ≤ 7) (hr : Rmc X (cells + 1 + mc) (slots + jn K + ms))
    (kk : ∀ al' : Nat → Nat → Nat, (∀ k i, (k, i) ∉ D → al' k i = al k i) → AtW X (pc + 7) (cells + 1 + mc) (slots + jn K + ms) L (.ref (al' K j) :: st) (w ++ wld (al', D, (xB X).2.2) σI)) : AtW X pc cells slots L st w := by
  refine a_new (K := K) (fs := fs) h hk h1 h2 h3 hfs (hr.le (by omega) (by omega)) d1 (fun q => ?_)
  refine a_dup h d2 ?_
  have h8' : ((Value.ref q :: st).map fun v => v.category).sum ≤ 8 := by
    rw [List.map_cons, List.sum_cons]
    have : (Value.ref q).category = 1 := rfl
    omega
  refine a_callI (As := []) (al := al) (D := []) h hR hv hlk hal (fun l => hcn l (al, [], (xB X).2.2) w q) rfl h8' hr d3 (fun w' hw' => ?_)
  obtain ⟨al', g1, g2, g3⟩ := hw'
  rw [g3 σI (Blk_I D), ← g2]
  exact kk al' g1
/-- the same, beside a thing that isn't whole yet -/
theorem g_make {M : jMT} {K j ixn ixi mc ms d : Nat} {fs : List Value} {D0 D : List (Nat × Nat)} {al : Nat → Nat → Nat} {x : Nat × va_E} (h : Cx X own cc N) (hR : Rm X d) (hk : K < 11) (h1 : Cond.classLink own ixn (jR K) ∈ lw_tbl) (h2 : Cond.instantiable (jR K) (jn K) ∈ lw_tbl) (h3 : Cond.initialized (jR K) ∈ lw_tbl) (hfs : ∀ j, j < jn K → defaultValue (jY K j) = vp_V fs j) (hv : VI M 0) (hlk : mlk own ixi M) (hal : ∀ k, 90 ≤ k → al k = (xB X).1 k)
    (hcn : ∀ (l : Launch) (B : jB) (ws : va_W) (h0 : Nat), Met l M.1 [.code M.1 M.2.1 M.2.2.1 M.2.2.2] (rmc d mc ms) (PcN B (ws ++ [(h0, .inr (K, fs))]) [.ref h0]) (QcN B (Nw B ws D K j h0)) mc ms (sysA B))
    (d1 : decode cc pc = .ok (.new ixn, 3)) (d2 : decode cc (pc + 3) = .ok (.dup, 1)) (d3 : decode cc (pc + 4) = .ok (.invokespecial ixi, 3)) (h8 : (st.map fun v => v.category).sum ≤ 7) (hr : Rmc X (cells + 1 + mc) (slots + jn K + ms))
    (hC : ∀ k j, (k, j) ∈ D0 → cin D0 k j) (hM : ∀ k j, (k, j) ∈ D0 → ∀ o i, br k o = some i → okr D0 (tkd k o) i) (hf : ∀ q ∈ D0, q ∉ D) (h90 : ∀ q ∈ D, q.1 < 90) (h20 : ∀ j, (20, j) ∈ D0 → ∀ o, (8, o + 3) ∉ D)
    (kk : ∀ al' : Nat → Nat → Nat, (∀ k i, (k, i) ∉ D → al' k i = al k i) → (∀ k, 90 ≤ k → al' k = (xB X).1 k) → AtW X (pc + 7) (cells + 1 + mc) (slots + jn K + ms) L (.ref (al' K j) :: st) (x :: wld (al', D0 ++ D, (xB X).2.2) σI)) : AtW X pc cells slots L st (x :: wld (al, D0, (xB X).2.2) σI) := by
  refine b_make h hR hk h1 h2 h3 hfs hv hlk hal hcn d1 d2 d3 h8 hr (fun al' g => ?_)
  have e : wld (al', D0, (xB X).2.2) σI = wld (al, D0, (xB X).2.2) σI := wld_al (fun k i q => g k i (fun z => by
      rcases q with q | q
      · exact hf _ q z
      · have := h90 _ z
        simp only at this
        omega)) (fun j hj o => g _ _ (h20 j hj o)) hC hM
  have := kk al' g (fun k hk => funext (fun i => by
    rw [g k i (fun z => by have := h90 _ z; simp only at this; omega), hal k hk]))
  rw [wld_app, e] at this
  exact this
theorem a_il {n : Fin 4} {i : Nat} {x : Int32} (h : Cx X own cc N) (hd : decode cc pc = .ok (.iload_n n, 1)) (hi : (n : Nat) = i) (hL : (i, Value.int x) ∈ L) (hk : AtW X (pc + 1) cells slots L (.int x :: st) w) : AtW X pc cells slots L st w := by
  obtain ⟨p, l, e, R, s, m, args, below, meth, c, Q, c1, c2, B, nL⟩ := X
  obtain ⟨hx, hb, -⟩ := h
  intro H locs rls hP hD hS hl
  exact lv_iload_n hx hb hd hi (hl.2.2 _ hL) (hk H locs rls hP hD hS hl)
theorem a_is {n : Fin 4} {i : Nat} {x : Int32} {L' : List (Nat × Value)} (h : Cx X own cc N) (hd : decode cc pc = .ok (.istore_n n, 1)) (hi : (n : Nat) = i) (hn : i < N) (hl' : (i, Value.int x) :: L.filter (fun q => !(q.1 == i) && !(q.1 + 1 == i && q.2.category == 2)) = L') (hk : AtW X (pc + 1) cells slots L' st w) : AtW X pc cells slots L (.int x :: st) w := by
  obtain ⟨p, l, e, R, s, m, args, below, meth, c, Q, c1, c2, B, nL⟩ := X
  obtain ⟨hx, hb, hml, hN, -⟩ := h
  intro H locs rls hP hD hS hl
  exact lv_istore_n hx hb hd hi hl (by rw [hN]; exact hn) hl' (fun rls hl => hk H locs rls hP hD hS hl)
theorem a_inc {i k : Nat} {n : Int} {x v : Int32} {L' : List (Nat × Value)} (h : Cx X own cc N) (hd : decode cc pc = .ok (.iinc i n, 3)) (hL : L[k]? = some (i, .int x)) (hv : x + Int32.ofInt n = v) (hn : i < N) (hl' : (i, Value.int v) :: L.filter (fun q => !(q.1 == i) && !(q.1 + 1 == i && q.2.category == 2)) = L') (hk : AtW X (pc + 3) cells slots L' st w) : AtW X pc cells slots L st w := by
  obtain ⟨p, l, e, R, s, m, args, below, meth, c, Q, c1, c2, B, nL⟩ := X
  obtain ⟨hx, hb, hml, hN, -⟩ := h
  intro H locs rls hP hD hS hl
  exact lv_iinc hx hb hd hl hL hv (by rw [hN]; exact hn) hl' (fun rls hl => hk H locs rls hP hD hS hl)
theorem a_jge {x y : Int32} {off : Int} {tgt : Nat} (h : Cx X own cc N) (hd : decode cc pc = .ok (.if_icmp .ge off, 3)) (ht : (pc : Int) + off = (tgt : Int)) (kt : y ≤ x → AtW X tgt cells slots L st w) (kf : ¬ y ≤ x → AtW X (pc + 3) cells slots L st w) : AtW X pc cells slots L (.int y :: .int x :: st) w := by
  obtain ⟨p, l, e, R, s, m, args, below, meth, c, Q, c1, c2, B, nL⟩ := X
  obtain ⟨hx, hb, hml, hN, -⟩ := h
  intro H locs rls hP hD hS hl
  exact lv_icmp_ge hx hb hd ht (fun z => kt z H locs rls hP hD hS hl) (fun z => kf z H locs rls hP hD hS hl)
theorem a_goto {off : Int} {tgt : Nat} (h : Cx X own cc N) (hd : decode cc pc = .ok (.goto off, 3)) (ht : (pc : Int) + off = (tgt : Int)) (kk : AtW X tgt cells slots L st w) : AtW X pc cells slots L st w := by
  obtain ⟨p, l, e, R, s, m, args, below, meth, c, Q, c1, c2, B, nL⟩ := X
  obtain ⟨hx, hb, hml, hN, -⟩ := h
  intro H locs rls hP hD hS hl
  exact lv_goto hx hb hd ht (kk H locs rls hP hD hS hl)
theorem a_aast {ws lo : va_W} {a n v K t0 i : Nat} {vs : List Value} {f : Nat → Option Nat} (h : Cx X own cc N) (hk : K < 11) (h6 : t0 < 6) (hC : eTy t0 = .object (jR K)) (hv : (v, .inr (K, vs)) ∈ ws ++ (a, .inl ((xB X).2.2.2.1 t0, n, .inr (.inr (.inr (.inr f))))) :: lo) (hi : i < n) (hn : n ≤ 20000) (hd : decode cc pc = .ok (.aastore, 1)) (kk : AtW X (pc + 1) cells slots L st (ws ++ (a, .inl ((xB X).2.2.2.1 t0, n, .inr (.inr (.inr (.inr (va_up f i (some v))))))) :: lo)) : AtW X pc cells slots L (.ref v :: .int (Int32.ofInt i) :: .ref a :: st) (ws ++ (a, .inl ((xB X).2.2.2.1 t0, n, .inr (.inr (.inr (.inr f))))) :: lo) := by
  obtain ⟨p, l, e, R, s, m, args, below, meth, c, Q, c1, c2, B, nL⟩ := X
  obtain ⟨hx, hb, hml, hN, hown, hT, hK, hbase, -⟩ := h
  intro H locs rls hP hD hS hl
  obtain ⟨qk, hqk⟩ := List.getElem?_of_mem hv
  have hin : inR (i : Int) := ⟨by omega, by omega⟩
  refine va_astq (i := Int32.ofInt i) hx hb hK hP hD hS ws.length t0 qk K (at_app ws lo _) (by simp [jtys, h6, hC]; rfl) hqk (jcl_at K hk) (in_of hin ⟨by omega, by omega⟩) hd (fun H1 locs1 hP1 hD1 hS1 => ?_)
  rw [set_app, cl_of hin, Int.toNat_natCast] at hP1 hD1
  exact kk H1 locs1 rls hP1 hD1 hS1 hl
/-- a row of references, told otherwise behind its end -/
theorem a_conv {ws lo : va_W} {a n : Nat} {c0 : ClassId} {f g : Nat → Option Nat} (hfg : ∀ o, o < n → f o = g o) (kk : AtW X pc cells slots L st (ws ++ (a, .inl (c0, n, .inr (.inr (.inr (.inr g))))) :: lo)) : AtW X pc cells slots L st (ws ++ (a, .inl (c0, n, .inr (.inr (.inr (.inr f))))) :: lo) := by
  obtain ⟨p, l, e, R, s, m, args, below, meth, c, Q, c1, c2, B, nL⟩ := X
  intro H locs rls hP hD hS hl
  have ec : vp_cell c0 (n, .inr (.inr (.inr (.inr f)))) = vp_cell c0 (n, .inr (.inr (.inr (.inr g)))) := by
    show arrV c0 n (fun j => va_rf (f j)) = arrV c0 n (fun j => va_rf (g j))
    unfold arrV
    congr 1
    congr 1
    funext j
    show va_rf (f j.1) = va_rf (g j.1)
    rw [hfg j.1 j.2]
  have hq : ∀ (k : Nat) (y : Nat × va_E), (ws ++ (a, .inl (c0, n, .inr (.inr (.inr (.inr g))))) :: lo)[k]? = some y → (k = ws.length ∧ y = (a, .inl (c0, n, .inr (.inr (.inr (.inr g)))))) ∨ (ws ++ (a, .inl (c0, n, .inr (.inr (.inr (.inr f))))) :: lo)[k]? = some y := by
    intro k y hy
    by_cases e : k = ws.length
    · subst e
      rw [at_app] at hy
      exact Or.inl ⟨rfl, (Option.some.inj hy).symm⟩
    · right
      rw [← hy]
      rcases Nat.lt_or_ge k ws.length with z | z
      · rw [List.getElem?_append_left z, List.getElem?_append_left z]
      · rw [List.getElem?_append_right z, List.getElem?_append_right z]
        obtain ⟨t, ht⟩ : ∃ t, k - ws.length = t + 1 := ⟨k - ws.length - 1, by omega⟩
        rw [ht]
        rfl
  refine kk H locs rls (fun k y hy => ?_) ⟨fun i j p q hp hq' hpq => ?_, fun k y hy => ?_⟩ hS hl
  · rcases hq k y hy with ⟨-, rfl⟩ | z
    · have := hP ws.length _ (at_app ws lo _)
      show H[a]? = some (vp_cell _ _)
      rw [← ec]
      exact this
    · exact hP k y z
  · rcases hq i p hp with ⟨rfl, rfl⟩ | z1 <;> rcases hq j q hq' with ⟨rfl, rfl⟩ | z2
    · rfl
    · exact hD.1 _ _ _ _ (at_app ws lo _) z2 hpq
    · exact hD.1 _ _ _ _ z1 (at_app ws lo _) hpq
    · exact hD.1 _ _ _ _ z1 z2 hpq
  · rcases hq k y hy with ⟨-, rfl⟩ | z
    · exact (show sysA B a from hD.2 ws.length (a, .inl (c0, n, .inr (.inr (.inr (.inr f))))) (at_app ws lo _))
    · exact hD.2 k y z
end A3
