/-! ===== 67 World: win, dropPage, lose, note, passYear ===== -/
theorem WW.upd {K : Nat} {Y : Int} {W : Nat → Int} (h : WW K Y W) {p : Nat} {v : Int} (hp : p < 19) (v0 : ∀ k, k < K → (p = 4 * k → 0 ≤ v ∧ v ≤ 30) ∧ (p = 4 * k + 1 → 0 ≤ v ∧ v ≤ 9) ∧ (p = 4 * k + 2 → 0 ≤ v ∧ v ≤ 9)) (v3 : ∀ k, k < 4 → p = 4 * k + 3 → (0 ≤ v ∧ v ≤ 999) ∧ (K ≤ k → v = 0)) (v16 : p = 16 → 0 ≤ v ∧ v < 2 ^ K) (v17 : p = 17 → 0 ≤ v ∧ v ≤ 999) (v18 : p = 18 → 0 ≤ v ∧ v ≤ Y) : WW K Y (up W p v) := by
  obtain ⟨h1, h2, h3, h4, h5, h6, h7, h8, h9⟩ := h
  refine ⟨fun k hk => ?_, fun k hk => ?_, ?_, ?_, ?_, ?_, fun i hi => ?_, ?_, fun i hi => ?_⟩
  · have a := h1 k hk
    have b := v0 k hk
    simp only [up_at]
    refine ⟨?_, ?_, ?_⟩ <;> split <;> first | exact a.1 | exact a.2.1 | exact a.2.2 | exact b.1 (by omega) | exact b.2.1 (by omega) | exact b.2.2 (by omega)
  · simp only [up_at]
    split
    · exact v3 k hk (by omega)
    · exact h2 k hk
  · simp only [up_at]; split
    · exact v16 (by omega)
    · exact h3
  · simp only [up_at]; split
    · exact v17 (by omega)
    · exact h4
  · simp only [up_at]; split
    · exact v18 (by omega)
    · exact h5
  · rw [up_ne (by omega)]; exact h6
  · rw [up_ne (by omega)] at hi
    rw [up_ne (by omega), up_ne (by omega), up_ne (by omega)]; exact h7 i hi
  · rw [up_ne (by omega)]; exact h8
  · rw [up_ne (by omega)] at hi
    rw [up_ne (by omega), up_ne (by omega), up_ne (by omega)]; exact h9 i hi
theorem WW.burn {K : Nat} {Y : Int} {W : Nat → Int} (h : WW K Y W) (hK : K ≤ 4) {i : Nat} (hi : (i : Int) < W 19) : WW K Y (burnS W i) := by
  obtain ⟨h1, h2, h3, h4, h5, h6, h7, h8, h9⟩ := h
  refine ⟨fun k hk => ?_, fun k hk => ?_, ?_, ?_, ?_, ?_, fun q hq => ?_, ?_, fun q hq => ?_⟩
  · rw [burn_lo (by omega), burn_lo (by omega), burn_lo (by omega)]; exact h1 k hk
  · rw [burn_lo (by omega)]; exact h2 k hk
  · rw [burn_lo (by omega)]; exact h3
  · rw [burn_lo (by omega)]; exact h4
  · rw [burn_lo (by omega)]; exact h5
  · rw [burn_19]; omega
  · rw [burn_19] at hq
    have b0 := burn_pg (W := W) (i := i) (q := q) (c := 0) (by decide) hq
    have b1 := burn_pg (W := W) (i := i) (q := q) (c := 1) (by decide) hq
    have b2 := burn_pg (W := W) (i := i) (q := q) (c := 2) (by decide) hq
    simp only [Nat.add_zero] at b0
    rw [show 20 + 1 + 3 * q = 21 + 3 * q by omega] at b1
    rw [show 20 + 2 + 3 * q = 22 + 3 * q by omega] at b2
    rw [b0, b1, b2]
    by_cases z : q < i
    · rw [if_pos z, if_pos z, if_pos z]; exact h7 q (by omega)
    · rw [if_neg z, if_neg z, if_neg z]; exact h7 (q + 1) (by omega)
  · rw [burn_hi (by decide) h6.2]; exact h8
  · rw [burn_hi (by decide) h6.2] at hq
    rw [burn_hi (by omega) h6.2, burn_hi (by omega) h6.2, burn_hi (by omega) h6.2]; exact h9 q hq
/-- three cells and a count written -/
theorem up4 {W : Nat → Int} {r c : Nat} {x y z u : Int} (hc : c < r) : (∀ p, p ≠ c → (p < r ∨ r + 3 ≤ p) → up (up (up (up W r x) (r + 1) y) (r + 2) z) c u p = W p) ∧ up (up (up (up W r x) (r + 1) y) (r + 2) z) c u c = u ∧ up (up (up (up W r x) (r + 1) y) (r + 2) z) c u r = x ∧ up (up (up (up W r x) (r + 1) y) (r + 2) z) c u (r + 1) = y ∧ up (up (up (up W r x) (r + 1) y) (r + 2) z) c u (r + 2) = z := by
  refine ⟨fun p hp hp2 => ?_, up_eq _ _ _, ?_, ?_, ?_⟩
  · rw [up_ne (by omega), up_ne (by omega), up_ne (by omega), up_ne (by omega)]
  · rw [up_ne (by omega), up_ne (by omega), up_ne (by omega), up_eq]
  · rw [up_ne (by omega), up_ne (by omega), up_eq]
  · rw [up_ne (by omega), up_eq]
theorem WW.page {K : Nat} {Y : Int} {W : Nat → Int} (h : WW K Y W) (hK : K ≤ 4) {n : Nat} {f b t : Int} (hn : W 19 = n) (n29 : n ≤ 29) (hf : 0 ≤ f ∧ f ≤ 7) (hb : 0 ≤ b ∧ b < K) (ht : 0 ≤ t ∧ t ≤ 29) : WW K Y (up (up (up (up W (20 + 3 * n) f) (20 + 3 * n + 1) b) (20 + 3 * n + 2) t) 19 (n + 1)) := by
  obtain ⟨o, e19, e0, e1, e2⟩ := up4 (W := W) (r := 20 + 3 * n) (c := 19) (x := f) (y := b) (z := t) (u := n + 1) (by omega)
  generalize up (up (up (up W (20 + 3 * n) f) (20 + 3 * n + 1) b) (20 + 3 * n + 2) t) 19 (n + 1) = V at *
  obtain ⟨h1, h2, h3, h4, h5, h6, h7, h8, h9⟩ := h
  refine ⟨fun k hk => ?_, fun k hk => ?_, ?_, ?_, ?_, ?_, fun q hq => ?_, ?_, fun q hq => ?_⟩
  · rw [o _ (by omega) (by omega), o _ (by omega) (by omega), o _ (by omega) (by omega)]; exact h1 k hk
  · rw [o _ (by omega) (by omega)]; exact h2 k hk
  · rw [o _ (by omega) (by omega)]; exact h3
  · rw [o _ (by omega) (by omega)]; exact h4
  · rw [o _ (by omega) (by omega)]; exact h5
  · rw [e19]; omega
  · rw [e19] at hq
    by_cases z : q = n
    · rw [z, e0, show 21 + 3 * n = 20 + 3 * n + 1 by omega, e1, show 22 + 3 * n = 20 + 3 * n + 2 by omega, e2]
      exact ⟨hf, hb, ht⟩
    · rw [o _ (by omega) (by omega), o _ (by omega) (by omega), o _ (by omega) (by omega)]; exact h7 q (by omega)
  · rw [o 110 (by omega) (by omega)]; exact h8
  · rw [o 110 (by omega) (by omega)] at hq
    rw [o _ (by omega) (by omega), o _ (by omega) (by omega), o _ (by omega) (by omega)]; exact h9 q hq
theorem WW.line {K : Nat} {Y : Int} {W : Nat → Int} (h : WW K Y W) (hK : K ≤ 4) {n : Nat} {f b t : Int} (hn : W 110 = n) (n29 : n ≤ 59) (hf : 0 ≤ f ∧ f ≤ 7) (hb : -1 ≤ b ∧ b ≤ 3) (ht : -1 ≤ t ∧ t ≤ 29) : WW K Y (up (up (up (up W (111 + 3 * n) f) (111 + 3 * n + 1) b) (111 + 3 * n + 2) t) 110 (n + 1)) := by
  obtain ⟨o, e19, e0, e1, e2⟩ := up4 (W := W) (r := 111 + 3 * n) (c := 110) (x := f) (y := b) (z := t) (u := n + 1) (by omega)
  generalize up (up (up (up W (111 + 3 * n) f) (111 + 3 * n + 1) b) (111 + 3 * n + 2) t) 110 (n + 1) = V at *
  obtain ⟨h1, h2, h3, h4, h5, h6, h7, h8, h9⟩ := h
  refine ⟨fun k hk => ?_, fun k hk => ?_, ?_, ?_, ?_, ?_, fun q hq => ?_, ?_, fun q hq => ?_⟩
  · rw [o _ (by omega) (by omega), o _ (by omega) (by omega), o _ (by omega) (by omega)]; exact h1 k hk
  · rw [o _ (by omega) (by omega)]; exact h2 k hk
  · rw [o _ (by omega) (by omega)]; exact h3
  · rw [o _ (by omega) (by omega)]; exact h4
  · rw [o _ (by omega) (by omega)]; exact h5
  · rw [o _ (by omega) (by omega)]; exact h6
  · rw [o 19 (by omega) (by omega)] at hq
    rw [o _ (by omega) (by omega), o _ (by omega) (by omega), o _ (by omega) (by omega)]; exact h7 q hq
  · rw [e19]; omega
  · rw [e19] at hq
    by_cases z : q = n
    · rw [z, e0, show 112 + 3 * n = 111 + 3 * n + 1 by omega, e1, show 113 + 3 * n = 111 + 3 * n + 2 by omega, e2]
      exact ⟨hf, hb, ht⟩
    · rw [o _ (by omega) (by omega), o _ (by omega) (by omega), o _ (by omega) (by omega)]; exact h9 q (by omega)
theorem WW.shift {K : Nat} {Y : Int} {W : Nat → Int} (h : WW K Y W) (hK : K ≤ 4) (h110 : W 110 = 60) : WW K Y (shfL W) := by
  have lo : ∀ p, p < 110 → shfL W p = W p := by intro p hp; unfold shfL; rw [if_neg (by omega), if_neg (by omega)]
  have e110 : shfL W 110 = 59 := by unfold shfL; rw [if_pos rfl]
  have sh : ∀ q c, q < 59 → c < 3 → shfL W (111 + c + 3 * q) = W (111 + c + 3 * (q + 1)) := by
    intro q c hq hc
    unfold shfL
    rw [if_neg (by omega), if_pos (by omega)]
    rfl
  generalize shfL W = V at *
  obtain ⟨h1, h2, h3, h4, h5, h6, h7, h8, h9⟩ := h
  refine ⟨fun k hk => ?_, fun k hk => ?_, ?_, ?_, ?_, ?_, fun q hq => ?_, ?_, fun q hq => ?_⟩
  · rw [lo _ (by omega), lo _ (by omega), lo _ (by omega)]; exact h1 k hk
  · rw [lo _ (by omega)]; exact h2 k hk
  · rw [lo _ (by omega)]; exact h3
  · rw [lo _ (by omega)]; exact h4
  · rw [lo _ (by omega)]; exact h5
  · rw [lo _ (by omega)]; exact h6
  · rw [lo 19 (by omega)] at hq
    rw [lo _ (by omega), lo _ (by omega), lo _ (by omega)]; exact h7 q hq
  · rw [e110]; decide
  · rw [e110] at hq
    have o0 := sh q 0 (by omega) (by decide)
    have o1 := sh q 1 (by omega) (by decide)
    have o2 := sh q 2 (by omega) (by decide)
    simp only [Nat.add_zero] at o0
    rw [o0, show 112 + 3 * q = 111 + 1 + 3 * q by omega, o1, show 113 + 3 * q = 111 + 2 + 3 * q by omega, o2]
    exact h9 (q + 1) (by omega)
theorem WW.wri {K : Nat} {Y : Int} {W : Nat → Int} (h : WW K Y W) (hK : K ≤ 4) {f b t : Int} (hf : 0 ≤ f ∧ f ≤ 7) (hb : 0 ≤ b ∧ b < K) (ht : 0 ≤ t ∧ t ≤ 29) : WW K Y (wriS W f b t) := by
  have h19 := h.2.2.2.2.2.1
  unfold wriS
  by_cases z : W 19 = 30
  · simp only [if_pos z]
    have := h.burn hK (i := 0) (by omega)
    have e : burnS W 0 19 = ((29 : Nat) : Int) := by rw [burn_19, z]; rfl
    rw [e]
    exact this.page hK e (by decide) hf hb ht
  · simp only [if_neg z]
    obtain ⟨n, hn⟩ := Int.eq_ofNat_of_zero_le h19.1
    rw [hn]
    exact h.page hK hn (by omega) hf hb ht
theorem WW.log {K : Nat} {Y : Int} {W : Nat → Int} (h : WW K Y W) (hK : K ≤ 4) {f b t : Int} (hf : 0 ≤ f ∧ f ≤ 7) (hb : -1 ≤ b ∧ b ≤ 3) (ht : -1 ≤ t ∧ t ≤ 29) : WW K Y (logS W f b t) := by
  have h19 := h.2.2.2.2.2.2.2.1
  unfold logS
  by_cases z : W 110 = 60
  · simp only [if_pos z]
    have := h.shift hK z
    have e : shfL W 110 = ((59 : Nat) : Int) := by unfold shfL; rw [if_pos rfl]; rfl
    rw [e]
    exact this.line hK e (by decide) hf hb ht
  · simp only [if_neg z]
    obtain ⟨n, hn⟩ := Int.eq_ofNat_of_zero_le h19.1
    rw [hn]
    exact h.line hK hn (by omega) hf hb ht
theorem WW.wkY {K : Nat} {Y Y' : Int} {W : Nat → Int} (h : WW K Y W) (hY : Y ≤ Y') : WW K Y' W := by
  obtain ⟨h1, h2, h3, h4, h5, h6, h7, h8, h9⟩ := h
  exact ⟨h1, h2, h3, h4, by omega, h6, h7, h8, h9⟩
/-- who is beaten, who wins, what is told -/
theorem yr_in {K F : Nat} {ru G W : Nat → Int} {Y s : Int} (hR : RW K F ru G) (hW : WW K Y W) {f : Nat} (hf : f < F) (hs : s = -1 ∨ s = 0 ∨ s = 1) : (-1 ≤ yBt G f s ∧ yBt G f s ≤ 3) ∧ (-1 ≤ yTl G W f s ∧ yTl G W f s ≤ 29) ∧ (s ≠ -1 → (0 ≤ yBt G f s ∧ yBt G f s < K) ∧ (0 ≤ yWon G f s ∧ yWon G f s < K) ∧ 0 ≤ yTl G W f s ∧ yTl G W f s = G (4 * f + 3) + W (4 * (yBt G f s).toNat + 1)) := by
  obtain ⟨g0, g1, gne, g2, g3⟩ := hR.at hf
  have hK := hR.1
  have hb : s ≠ -1 → 0 ≤ yBt G f s ∧ yBt G f s < K := by
    intro z
    unfold yBt
    rw [if_neg z]
    split
    · exact g1
    · exact g0
  have hw : 0 ≤ yWon G f s ∧ yWon G f s < K := by
    unfold yWon
    split
    · exact g0
    · exact g1
  by_cases z : s = -1
  · have e1 : yBt G f s = -1 := by unfold yBt; rw [if_pos z]
    have e2 : yTl G W f s = -1 := by unfold yTl; rw [if_pos z]
    rw [e1, e2]
    exact ⟨by decide, by decide, fun q => absurd z q⟩
  · have e2 : yTl G W f s = G (4 * f + 3) + W (4 * (yBt G f s).toNat + 1) := by unfold yTl; rw [if_neg z]
    have hbz := hb z
    have := hW.1 (yBt G f s).toNat (by omega)
    exact ⟨by omega, by omega, fun _ => ⟨hbz, hw, by omega, e2⟩⟩
theorem WW.yearW {K F : Nat} {ru G W : Nat → Int} {Y s : Int} (hR : RW K F ru G) (hW : WW K Y W) {f : Nat} (hf : f < F) (hs : s = -1 ∨ s = 0 ∨ s = 1) : WW K (Y + 1) (yW (ru 0) G W f s) := by
  obtain ⟨q1, q2, q3⟩ := yr_in hR hW hf hs
  obtain ⟨⟨rK, rK4⟩, ⟨rF, rF8⟩, ru0, -, -⟩ := hR
  have hW0 := hW
  obtain ⟨wk, ww, -, w17, w18, w19, -, w110, -⟩ := hW0
  unfold yW
  refine WW.log ?_ rK4 (by omega) q1 q2
  have hV : WW K Y (yV (ru 0) G W f s) := by
    unfold yV
    by_cases z : s = -1
    · rw [if_pos z]; exact hW
    · rw [if_neg z]
      obtain ⟨b1, b2, b3, b4⟩ := q3 z
      have m1 := wk (yBt G f s).toNat (by omega)
      have m2 := (ww (yWon G f s).toNat (by omega)).1
      refine WW.upd (WW.wri ?_ rK4 (by omega) b1 (by omega)) (by decide) (fun k hk => ⟨fun q => (by omega), fun q => (by omega), fun q => (by omega)⟩) (fun k hk q => by omega) (fun q => by omega) (fun q => by omega) (fun q => by omega)
      unfold yV3
      refine WW.upd (WW.upd (WW.upd hW (by omega) (fun k hk => ⟨fun q => (by omega), fun q => (by omega), fun q => (by omega)⟩) (fun k hk q => ⟨by omega, fun q2 => by omega⟩) (fun q => by omega) (fun q => by omega) (fun q => by omega)) (by omega) (fun k hk => ⟨fun q => (by omega), fun q => (by omega), fun q => (by omega)⟩) (fun k hk q => by omega) (fun q => by omega) (fun q => by omega) (fun q => by omega)) (by omega) (fun k hk => ⟨fun q => (by omega), fun q => (by omega), fun q => (by omega)⟩) (fun k hk q => by omega) (fun q => by omega) (fun q => by omega) (fun q => by omega)
  exact (hV.wkY (by omega)).upd (by decide) (fun k hk => ⟨fun q => (by omega), fun q => (by omega), fun q => (by omega)⟩) (fun k hk q => by omega) (fun q => by omega) (fun q => by omega) (fun q => by omega)
