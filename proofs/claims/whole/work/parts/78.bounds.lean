/-! ===== 78 bounds of a realm that was read; its first world ===== -/
theorem pItems_rg {T : Nat → Int} {n li : Nat} {bd : Nat → Int} {L : Nat} : ∀ (m a s : Nat) (v : Nat → Int) (q : Nat × (Nat → Int)), (∀ o, o < L → 0 ≤ v o ∧ v o ≤ bd o) → pItems T n li bd m a s v = .inr q → ∀ o, o < L → 0 ≤ q.2 o ∧ q.2 o ≤ bd o
  | 0, a, s, v, q, hv, h => by cases h; exact hv
  | m + 1, a, s, v, q, hv, h => by
    unfold pItems at h
    split at h
    · cases h; exact hv
    · split at h
      · cases h
      · rename_i q' hq
        refine pItems_rg m _ _ _ q (fun o ho => ?_) h
        simp only [up_at]
        split
        · rename_i e
          rw [e]
          exact ⟨numR_nn (b := q'.1) (v := q'.2) hq, numR_v (b := q'.1) (v := q'.2) hq⟩
        · exact hv o ho
def PRo (s : RS) : Prop := s.2.1 ≤ 4 ∧ s.2.2.1 ≤ 8 ∧ (0 ≤ s.2.2.2.1 0 ∧ s.2.2.2.1 0 ≤ 9) ∧ (0 ≤ s.2.2.2.1 1 ∧ s.2.2.2.1 1 ≤ 99) ∧
  (∀ k, k < s.2.1 → (0 ≤ s.2.2.2.2.1 (3 * k) ∧ s.2.2.2.2.1 (3 * k) ≤ 30) ∧ (0 ≤ s.2.2.2.2.1 (3 * k + 1) ∧ s.2.2.2.2.1 (3 * k + 1) ≤ 9) ∧ (0 ≤ s.2.2.2.2.1 (3 * k + 2) ∧ s.2.2.2.2.1 (3 * k + 2) ≤ 9)) ∧
  ∀ f, f < s.2.2.1 → (0 ≤ s.2.2.2.2.2 (4 * f) ∧ s.2.2.2.2.2 (4 * f) ≤ 3) ∧ (0 ≤ s.2.2.2.2.2 (4 * f + 1) ∧ s.2.2.2.2.2 (4 * f + 1) ≤ 3) ∧ (0 ≤ s.2.2.2.2.2 (4 * f + 2) ∧ s.2.2.2.2.2 (4 * f + 2) ≤ 9) ∧ (0 ≤ s.2.2.2.2.2 (4 * f + 3) ∧ s.2.2.2.2.2 (4 * f + 3) ≤ 20)
theorem dfl_rg : ∀ li : Nat, li < 3 → ∀ o : Nat, o < li + 2 → 0 ≤ dfl li o ∧ dfl li o ≤ jbnd li o := by decide +kernel
theorem pRcl_rg {T : Nat → Int} {n a : Nat} {s : RS} {q : Nat × RS} (hs : PRo s) (h : pRcl T n s a = .inr q) : PRo q.2 := by
  obtain ⟨h1, h2, h3, h4, h5, h6⟩ := hs
  unfold pRcl at h
  split at h
  · split at h
    · cases h
    · rename_i q' hq
      cases h
      have := pItems_rg (L := 2) _ _ _ _ _ (dfl_rg 0 (by decide)) hq
      exact ⟨h1, h2, this 0 (by decide), this 1 (by decide), h5, h6⟩
  · split at h
    · rename_i hc
      split at h
      · cases h
      · rename_i q' hq
        cases h
        have g := pItems_rg (L := 3) _ _ _ _ _ (dfl_rg 1 (by decide)) hq
        refine ⟨by show s.2.1 + 1 ≤ 4; omega, h2, h3, h4, fun k hk => ?_, h6⟩
        have hk : k < s.2.1 + 1 := hk
        show (0 ≤ cpS q'.2 s.2.2.2.2.1 (3 * s.2.1) 3 (3 * k) ∧ cpS q'.2 s.2.2.2.2.1 (3 * s.2.1) 3 (3 * k) ≤ 30) ∧ (0 ≤ cpS q'.2 s.2.2.2.2.1 (3 * s.2.1) 3 (3 * k + 1) ∧ cpS q'.2 s.2.2.2.2.1 (3 * s.2.1) 3 (3 * k + 1) ≤ 9) ∧ (0 ≤ cpS q'.2 s.2.2.2.2.1 (3 * s.2.1) 3 (3 * k + 2) ∧ cpS q'.2 s.2.2.2.2.1 (3 * s.2.1) 3 (3 * k + 2) ≤ 9)
        by_cases z : k = s.2.1
        · rw [z, cp_in (p := 1) (by decide), cp_in (p := 2) (by decide)]
          have e := cp_in (s := q'.2) (g := s.2.2.2.2.1) (c0 := 3 * s.2.1) (q := 3) (p := 0) (by decide)
          rw [Nat.add_zero] at e
          rw [e]
          exact ⟨g 0 (by decide), g 1 (by decide), g 2 (by decide)⟩
        · rw [cp_out (by omega), cp_out (by omega), cp_out (by omega)]
          exact h5 k (by omega)
    · split at h
      · rename_i hc
        split at h
        · cases h
        · rename_i q' hq
          cases h
          have g := pItems_rg (L := 4) _ _ _ _ _ (dfl_rg 2 (by decide)) hq
          refine ⟨h1, by show s.2.2.1 + 1 ≤ 8; omega, h3, h4, h5, fun f hf => ?_⟩
          have hf : f < s.2.2.1 + 1 := hf
          show (0 ≤ cpS q'.2 s.2.2.2.2.2 (4 * s.2.2.1) 4 (4 * f) ∧ cpS q'.2 s.2.2.2.2.2 (4 * s.2.2.1) 4 (4 * f) ≤ 3) ∧ (0 ≤ cpS q'.2 s.2.2.2.2.2 (4 * s.2.2.1) 4 (4 * f + 1) ∧ cpS q'.2 s.2.2.2.2.2 (4 * s.2.2.1) 4 (4 * f + 1) ≤ 3) ∧ (0 ≤ cpS q'.2 s.2.2.2.2.2 (4 * s.2.2.1) 4 (4 * f + 2) ∧ cpS q'.2 s.2.2.2.2.2 (4 * s.2.2.1) 4 (4 * f + 2) ≤ 9) ∧ (0 ≤ cpS q'.2 s.2.2.2.2.2 (4 * s.2.2.1) 4 (4 * f + 3) ∧ cpS q'.2 s.2.2.2.2.2 (4 * s.2.2.1) 4 (4 * f + 3) ≤ 20)
          by_cases z : f = s.2.2.1
          · rw [z, cp_in (p := 1) (by decide), cp_in (p := 2) (by decide), cp_in (p := 3) (by decide)]
            have e := cp_in (s := q'.2) (g := s.2.2.2.2.2) (c0 := 4 * s.2.2.1) (q := 4) (p := 0) (by decide)
            rw [Nat.add_zero] at e
            rw [e]
            exact ⟨g 0 (by decide), g 1 (by decide), g 2 (by decide), g 3 (by decide)⟩
          · rw [cp_out (by omega), cp_out (by omega), cp_out (by omega), cp_out (by omega)]
            exact h6 f (by omega)
      · cases h
theorem pRcls_rg {T : Nat → Int} {n : Nat} : ∀ (m a : Nat) (s : RS) (q : Nat × RS), PRo s → pRcls T n m a s = .inr q → PRo q.2
  | 0, a, s, q, hs, h => by cases h; exact hs
  | m + 1, a, s, q, hs, h => by
    unfold pRcls at h
    split at h
    · split at h
      · cases h
      · rename_i q' hq
        exact pRcls_rg m _ _ q (pRcl_rg hs hq) h
    · cases h; exact hs
theorem pRealm_rg {T : Nat → Int} {n : Nat} {s : RS} (h : pRealm T n = .inr s) : PRo s ∧ stn s := by
  have h0 : PRo rs0 := ⟨by decide, by decide, by decide, by decide, fun k hk => absurd hk (Nat.not_lt_zero k), fun k hk => absurd hk (Nat.not_lt_zero k)⟩
  unfold pRealm at h
  split at h
  · cases h
  · rename_i q hq
    split at h
    · cases h
    · rename_i q' hq'
      have h1 := pRcls_rg _ _ _ _ (pRcl_rg h0 hq) hq'
      unfold pRend at h
      split at h
      · cases h
      · split at h
        · rename_i hs
          cases h
          exact ⟨h1, hs⟩
        · cases h
theorem PRo.rw {s : RS} (h : PRo s) (hs : stn s) : RW s.2.1 s.2.2.1 s.2.2.2.1 s.2.2.2.2.2 := by
  obtain ⟨h1, h2, h3, h4, h5, h6⟩ := h
  obtain ⟨s1, s2, s3⟩ := hs
  refine ⟨⟨s1, h1⟩, ⟨s2, h2⟩, h3, h4, fun f hf => ?_⟩
  have a := h6 f hf
  have b := s3 f hf
  exact ⟨⟨a.1.1, b.1⟩, ⟨a.2.1.1, b.2.1⟩, b.2.2, a.2.2.1, a.2.2.2⟩
theorem RV.cr {σ : jM} {r : Nat} {s : RS} (h : RV σ r s) : CR σ r s.2.1 s.2.2.1 s.2.2.2.1 s.2.2.2.2.2 := by
  obtain ⟨h1, h2, h3, h4, h5, h6, h7, h8, h9⟩ := h
  exact ⟨h3, h4, h6, h9⟩
theorem W0_at {K : Nat} {kr : Nat → Int} {c : Int} {k i : Nat} (hk : k < K) (hi : i < 3) : W0 K kr c (4 * k + i) = kr (3 * k + i) := by
  unfold W0
  rw [if_pos (by omega), show 3 * ((4 * k + i) / 4) + (4 * k + i) % 4 = 3 * k + i by omega]
theorem W0_w {K : Nat} {kr : Nat → Int} {c Y : Int} (hK : K ≤ 4) (hY : 0 ≤ Y) (hk : ∀ k, k < K → (0 ≤ kr (3 * k) ∧ kr (3 * k) ≤ 30) ∧ (0 ≤ kr (3 * k + 1) ∧ kr (3 * k + 1) ≤ 9) ∧ (0 ≤ kr (3 * k + 2) ∧ kr (3 * k + 2) ≤ 9)) (hc : 0 ≤ c ∧ c ≤ 99) : WW K Y (W0 K kr c) := by
  have e17 : W0 K kr c 17 = c := by unfold W0; rw [if_neg (by omega), if_pos rfl]
  have p2 : (0 : Int) < 2 ^ K := Int.pow_pos (by decide)
  refine ⟨fun k hk' => ?_, fun k hk' => ?_, ?_, ?_, ?_, ?_, fun i hi => ?_, ?_, fun i hi => ?_⟩
  · have e0 := W0_at (kr := kr) (c := c) hk' (i := 0) (by decide)
    rw [Nat.add_zero, Nat.add_zero] at e0
    rw [e0, W0_at hk' (by decide), W0_at hk' (by decide)]
    exact hk k hk'
  · have e3 : W0 K kr c (4 * k + 3) = 0 := by unfold W0; rw [if_neg (by omega), if_neg (by omega)]
    rw [e3]
    exact ⟨by decide, fun _ => rfl⟩
  · rw [W0_z hK (Or.inr rfl)]; exact ⟨Int.le_refl 0, p2⟩
  · rw [e17]; omega
  · rw [W0_z hK (Or.inl (by decide))]; omega
  · rw [W0_z hK (Or.inl (by decide))]; decide
  · rw [W0_z hK (Or.inl (by decide))] at hi; omega
  · rw [W0_z hK (Or.inl (by decide))]; decide
  · rw [W0_z hK (Or.inl (by decide))] at hi; omega
theorem CW.congr {σ : jM} {j K : Nat} {V W : Nat → Int} (hK : K ≤ 4) (h19 : W 19 ≤ 30) (h110 : W 110 ≤ 60) (h : ∀ p, p < 291 → V p = W p) (hC : CW σ j K W) : CW σ j K V := by
  obtain ⟨h1, h2, h3, h4, h5⟩ := hC
  refine ⟨fun k hk => ?_, fun k hk => ?_, ?_, fun i hi => ?_, fun i hi => ?_⟩
  · rw [h _ (by omega), h _ (by omega), h _ (by omega)]; exact h1 k hk
  · rw [h _ (by omega), h _ (by omega), pgs_congr (W := W) (h 19 (by decide)) (fun i hi => h _ (by omega))]; exact h2 k hk
  · rw [h _ (by omega), h _ (by omega), h _ (by omega), h _ (by omega)]; exact h3
  · rw [h 19 (by decide)] at hi
    rw [h _ (by omega), h _ (by omega), h _ (by omega)]; exact h4 i hi
  · rw [h 110 (by decide)] at hi
    rw [h _ (by omega), h _ (by omega), h _ (by omega)]; exact h5 i hi
theorem WW.congr {K : Nat} {Y : Int} {V W : Nat → Int} (hK : K ≤ 4) (h : ∀ p, p < 291 → V p = W p) (hC : WW K Y W) : WW K Y V := by
  obtain ⟨h1, h2, h3, h4, h5, h6, h7, h8, h9⟩ := hC
  refine ⟨fun k hk => ?_, fun k hk => ?_, ?_, ?_, ?_, ?_, fun i hi => ?_, ?_, fun i hi => ?_⟩
  · rw [h _ (by omega), h _ (by omega), h _ (by omega)]; exact h1 k hk
  · rw [h _ (by omega)]; exact h2 k hk
  · rw [h _ (by omega)]; exact h3
  · rw [h _ (by omega)]; exact h4
  · rw [h _ (by omega)]; exact h5
  · rw [h _ (by omega)]; exact h6
  · rw [h 19 (by decide)] at hi
    rw [h _ (by omega), h _ (by omega), h _ (by omega)]; exact h7 i hi
  · rw [h _ (by omega)]; exact h8
  · rw [h 110 (by decide)] at hi
    rw [h _ (by omega), h _ (by omega), h _ (by omega)]; exact h9 i hi
