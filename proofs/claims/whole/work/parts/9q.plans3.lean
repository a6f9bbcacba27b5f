/-! ===== 9q text: the steps of a campaign that is read ===== -/
theorem sidx5 : ∀ c : Nat, c < 256 → sidx 5 c ≤ 3 := by decide +kernel
section PQ
variable {T : Nat → Int} {n : Nat}
theorem sidx5_le {x : Int} (hx : -1 ≤ x ∧ x ≤ 255) : sidx 5 x ≤ 3 := by
  by_cases z : x = -1
  · rw [z, sidx_neg]; decide
  · obtain ⟨c, rfl⟩ := Int.eq_ofNat_of_zero_le (show 0 ≤ x by omega)
    exact sidx5 c (by omega)
theorem pStep_ok (hT : sgs n T) {a : Nat} {q : Nat × Int × Int} (h : pStep T n a = .inr q) : PSt q.2 := by
  unfold pStep at h
  split at h
  · cases h
  · split at h
    · cases h; exact Or.inl ⟨rfl, rfl⟩
    · split at h
      · cases h
      · rename_i h1 h2 p hp
        cases h
        refine Or.inr ⟨⟨by show 1 ≤ sidx 5 (sg T n a); omega, sidx5_le (sg_in hT a)⟩, numR_nn (b := p.1) (v := p.2) hp, numR_v (b := p.1) (v := p.2) hp⟩
theorem pRst_ok (hT : sgs n T) : ∀ (m b : Nat) (l l' : List (Int × Int)), (∀ s ∈ l, PSt s) → pRst T n m b l = .inr l' → ∀ s ∈ l', PSt s
  | 0, b, l, l', hl, h => by
    unfold pRst at h
    split at h
    · cases h
    · cases h; exact hl
  | m + 1, b, l, l', hl, h => by
    unfold pRst at h
    split at h
    · split at h
      · cases h
      · rename_i q hq
        refine pRst_ok hT m _ _ l' (fun s hs => ?_) h
        rcases List.mem_append.mp hs with e | e
        · exact hl s e
        · rw [List.mem_singleton.mp e]; exact pStep_ok hT hq
    · split at h
      · cases h
      · cases h; exact hl
theorem pPlan_ok (hT : sgs n T) {l : List (Int × Int)} (h : pPlan T n = .inr l) : ∀ s ∈ l, PSt s := by
  unfold pPlan at h
  split at h
  · cases h
  · rename_i q hq
    refine pRst_ok hT 15 _ _ l (fun s hs => ?_) h
    rw [List.mem_singleton.mp hs]
    exact pStep_ok hT hq
end PQ
