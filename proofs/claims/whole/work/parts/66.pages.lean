/-! ===== 66 World: pages and the log ===== -/
def SW (j : Nat) : jS := fun k i _ => i = j ∧ (k = 8 ∨ (41 ≤ k ∧ k ≤ 48))
theorem cnt_shift {V W : Nat → Int} {k : Int} {i n : Nat} (h1 : ∀ q, q < n → q < i → V (21 + 3 * q) = W (21 + 3 * q)) (h2 : ∀ q, q < n → i ≤ q → V (21 + 3 * q) = W (21 + 3 * (q + 1))) : ∀ m, m ≤ n → cnt V k m = if m ≤ i then cnt W k m else cnt W k (m + 1) - (if W (21 + 3 * i) = k then 1 else 0)
  | 0, _ => by rw [if_pos (Nat.zero_le _)]; rfl
  | m + 1, hm => by
    have ih := cnt_shift (k := k) h1 h2 m (by omega)
    have e1 : cnt V k (m + 1) = cnt V k m + if V (21 + 3 * m) = k then 1 else 0 := rfl
    have e2 : cnt W k (m + 1) = cnt W k m + if W (21 + 3 * m) = k then 1 else 0 := rfl
    have e3 : cnt W k (m + 1 + 1) = cnt W k (m + 1) + if W (21 + 3 * (m + 1)) = k then 1 else 0 := rfl
    rw [e1, ih]
    by_cases z : m + 1 ≤ i
    · rw [if_pos (by omega), if_pos z, e2, h1 m (by omega) (by omega)]
    · rw [if_neg z]
      by_cases z2 : m ≤ i
      · have : m = i := by omega
        subst this
        rw [if_pos z2, h2 m (by omega) (by omega), e3, e2]
        omega
      · rw [if_neg z2, h2 m (by omega) (by omega), e3]
        omega
theorem burn_19 (W : Nat → Int) (i : Nat) : burnS W i 19 = W 19 - 1 := by unfold burnS; rw [if_pos rfl]
theorem burn_lo {W : Nat → Int} {i p : Nat} (h : p < 19) : burnS W i p = W p := by unfold burnS; rw [if_neg (by omega), if_neg (by omega), if_neg (by omega)]
theorem burn_hi {W : Nat → Int} {i p : Nat} (h : 110 ≤ p) (h19 : W 19 ≤ 30) : burnS W i p = W p := by unfold burnS; rw [if_neg (by omega), if_neg (by omega), if_neg (by omega)]
/-- the pages that stay -/
theorem burn_pg {W : Nat → Int} {i q c : Nat} (hc : c < 3) (hq : (q : Int) < W 19 - 1) : burnS W i (20 + c + 3 * q) = if q < i then W (20 + c + 3 * q) else W (20 + c + 3 * (q + 1)) := by
  unfold burnS
  rw [if_neg (by omega)]
  by_cases z : q < i
  · rw [if_neg (by omega), if_neg (by omega), if_pos z]
  · rw [if_pos (by omega), if_neg z, show 20 + c + 3 * q + 3 = 20 + c + 3 * (q + 1) by omega]
theorem pgs_burn {W : Nat → Int} {i : Nat} {k : Int} (hi : (i : Int) < W 19) : pgs (burnS W i) k = pgs W k - (if W (21 + 3 * i) = k then 1 else 0) := by
  unfold pgs
  rw [burn_19]
  have := cnt_shift (V := burnS W i) (W := W) (k := k) (i := i) (n := (W 19 - 1).toNat) (fun q h1 h2 => by have := burn_pg (W := W) (i := i) (q := q) (c := 1) (by decide) (by omega); rw [if_pos h2] at this; exact this) (fun q h1 h2 => by have := burn_pg (W := W) (i := i) (q := q) (c := 1) (by decide) (by omega); rw [if_neg (by omega)] at this; exact this) _ (Nat.le_refl _)
  rw [this, show (W 19).toNat = (W 19 - 1).toNat + 1 by omega]
  by_cases z : (W 19 - 1).toNat ≤ i
  · rw [if_pos z, show i = (W 19 - 1).toNat by omega]
    have e2 : cnt W k ((W 19 - 1).toNat + 1) = cnt W k (W 19 - 1).toNat + if W (21 + 3 * (W 19 - 1).toNat) = k then 1 else 0 := rfl
    rw [e2]
    omega
  · rw [if_neg z]
section PGS
variable {σ : jM} {j K : Nat} {W : Nat → Int} {Y : Int}
theorem CW.drop (h : CW σ j K W) (hK : K ≤ 4) (hW : WW K Y W) {i : Nat} (hi : (i : Int) < W 19) : CW (sI (sA (sI σ 46 j (W (21 + 3 * i)).toNat (pgs W (W (21 + 3 * i)) - 1)) 47 j (cpyF (σ.1 47 j) (σ.1 47 j) (i + 1) i ((W 19).toNat - i - 1))) 8 j 8 (W 19 - 1)) j K (burnS W i) := by
  have hW' := hW
  obtain ⟨-, -, -, -, -, w19, wpg, w110, -⟩ := hW'
  obtain ⟨-, pw, -⟩ := wpg i hi
  obtain ⟨h1, h2, h3, h4, h5⟩ := h
  refine ⟨fun k hk => ?_, fun k hk => ?_, ?_, fun q hq => ?_, fun q hq => ?_⟩
  · rw [burn_lo (by omega), burn_lo (by omega), burn_lo (by omega)]
    exact h1 k hk
  · rw [burn_lo (by omega), burn_lo (by omega), pgs_burn hi]
    have := h2 k hk
    simp only [g_sI, g_sA, Nat.reduceEqDiff, false_and, if_false, true_and]
    refine ⟨this.1, this.2.1, ?_⟩
    by_cases z : k = (W (21 + 3 * i)).toNat
    · rw [if_pos z, if_pos (by omega), show (k : Int) = W (21 + 3 * i) by omega]
    · rw [if_neg z, if_neg (by omega), this.2.2]
      omega
  · rw [burn_19, burn_hi (by decide) w19.2, burn_lo (by decide), burn_lo (by decide)]
    simp only [g_sI, g_sA, Nat.reduceEqDiff, false_and, and_false, if_false, and_self, if_true, true_and]
    exact h3.2
  · rw [burn_19] at hq
    have b0 := burn_pg (W := W) (i := i) (q := q) (c := 0) (by decide) hq
    have b1 := burn_pg (W := W) (i := i) (q := q) (c := 1) (by decide) hq
    have b2 := burn_pg (W := W) (i := i) (q := q) (c := 2) (by decide) hq
    simp only [Nat.add_zero] at b0
    rw [show 20 + 1 + 3 * q = 21 + 3 * q by omega] at b1
    rw [show 20 + 2 + 3 * q = 22 + 3 * q by omega] at b2
    rw [b0, b1, b2]
    simp only [g_sI, g_sA, Nat.reduceEqDiff, false_and, if_false, and_self, if_true, cpyF]
    by_cases z : q < i
    · rw [if_pos z, if_pos z, if_pos z, if_neg (by omega)]
      exact h4 q (by omega)
    · rw [if_neg z, if_neg z, if_neg z, if_pos (by omega), show i + 1 + (q - i) = q + 1 by omega]
      exact h4 (q + 1) (by omega)
  · rw [burn_hi (by decide) w19.2] at hq
    rw [burn_hi (by omega) w19.2, burn_hi (by omega) w19.2, burn_hi (by omega) w19.2]
    exact h5 q hq
theorem CW.page (h : CW σ j K W) (hK : K ≤ 4) {n b : Nat} {f t : Int} (hn : W 19 = n) (n29 : n ≤ 29) (hb : b < 4) : CW (sI (sI (sI σ 47 j n (pk f b t)) 8 j 8 (n + 1)) 46 j b (pgs W b + 1)) j K (up (up (up (up W (20 + 3 * n) f) (20 + 3 * n + 1) b) (20 + 3 * n + 2) t) 19 (n + 1)) := by
  obtain ⟨h1, h2, h3, h4, h5⟩ := h
  have lo : ∀ p, p < 19 ∨ 110 ≤ p → up (up (up (up W (20 + 3 * n) f) (20 + 3 * n + 1) b) (20 + 3 * n + 2) t) 19 (n + 1) p = W p := by
    intro p hp
    rw [up_ne (by omega), up_ne (by omega), up_ne (by omega), up_ne (by omega)]
  have e19 : up (up (up (up W (20 + 3 * n) f) (20 + 3 * n + 1) b) (20 + 3 * n + 2) t) 19 (n + 1) 19 = n + 1 := up_eq _ _ _
  have old : ∀ q c, q < n → c < 3 → up (up (up (up W (20 + 3 * n) f) (20 + 3 * n + 1) b) (20 + 3 * n + 2) t) 19 (n + 1) (20 + c + 3 * q) = W (20 + c + 3 * q) := by
    intro q c hq hc
    rw [up_ne (by omega), up_ne (by omega), up_ne (by omega), up_ne (by omega)]
  have n0 : up (up (up (up W (20 + 3 * n) f) (20 + 3 * n + 1) b) (20 + 3 * n + 2) t) 19 (n + 1) (20 + 3 * n) = f := by rw [up_ne (by omega), up_ne (by omega), up_ne (by omega), up_eq]
  have n1 : up (up (up (up W (20 + 3 * n) f) (20 + 3 * n + 1) b) (20 + 3 * n + 2) t) 19 (n + 1) (21 + 3 * n) = b := by rw [show 21 + 3 * n = 20 + 3 * n + 1 by omega, up_ne (by omega), up_ne (by omega), up_eq]
  have n2 : up (up (up (up W (20 + 3 * n) f) (20 + 3 * n + 1) b) (20 + 3 * n + 2) t) 19 (n + 1) (22 + 3 * n) = t := by rw [show 22 + 3 * n = 20 + 3 * n + 2 by omega, up_ne (by omega), up_eq]
  generalize up (up (up (up W (20 + 3 * n) f) (20 + 3 * n + 1) b) (20 + 3 * n + 2) t) 19 (n + 1) = V at *
  have hp : ∀ k : Int, pgs V k = pgs W k + if (b : Int) = k then 1 else 0 := by
    intro k
    unfold pgs
    rw [e19, show ((n : Int) + 1).toNat = n + 1 by omega, hn, Int.toNat_natCast]
    have e1 : cnt V k (n + 1) = cnt V k n + if V (21 + 3 * n) = k then 1 else 0 := rfl
    rw [e1, n1, cnt_congr (V := V) (W := W) n (fun q hq => old q 1 hq (by decide))]
  refine ⟨fun k hk => ?_, fun k hk => ?_, ?_, fun q hq => ?_, fun q hq => ?_⟩
  · rw [lo _ (by omega), lo _ (by omega), lo _ (by omega)]
    exact h1 k hk
  · rw [lo _ (by omega), lo _ (by omega), hp]
    have := h2 k hk
    simp only [g_sI, Nat.reduceEqDiff, false_and, if_false, true_and]
    refine ⟨this.1, this.2.1, ?_⟩
    by_cases z : k = b
    · rw [if_pos z, if_pos (by omega), z]
    · rw [if_neg z, if_neg (by omega), this.2.2]
      omega
  · rw [lo 110 (by omega), lo 17 (by omega), lo 18 (by omega), e19]
    simp only [g_sI, Nat.reduceEqDiff, false_and, and_false, if_false, and_self, if_true, true_and]
    exact h3.2
  · rw [e19] at hq
    simp only [g_sI, Nat.reduceEqDiff, false_and, if_false, true_and]
    by_cases z : q = n
    · rw [if_pos z, z, n0, n1, n2]
    · have o0 := old q 0 (by omega) (by decide)
      have o1 := old q 1 (by omega) (by decide)
      have o2 := old q 2 (by omega) (by decide)
      simp only [Nat.add_zero] at o0
      rw [if_neg z, o0, o1, o2]
      exact h4 q (by omega)
  · rw [lo 110 (by omega)] at hq
    rw [lo _ (by omega), lo _ (by omega), lo _ (by omega)]
    exact h5 q hq
theorem CW.line (h : CW σ j K W) (hK : K ≤ 4) (h19 : W 19 ≤ 30) {n : Nat} {f b t : Int} (hn : W 110 = n) (n29 : n ≤ 59) : CW (sI (sI σ 48 j n (pk f b t)) 8 j 9 (n + 1)) j K (up (up (up (up W (111 + 3 * n) f) (111 + 3 * n + 1) b) (111 + 3 * n + 2) t) 110 (n + 1)) := by
  obtain ⟨h1, h2, h3, h4, h5⟩ := h
  have lo : ∀ p, p < 110 → up (up (up (up W (111 + 3 * n) f) (111 + 3 * n + 1) b) (111 + 3 * n + 2) t) 110 (n + 1) p = W p := by
    intro p hp
    rw [up_ne (by omega), up_ne (by omega), up_ne (by omega), up_ne (by omega)]
  have e19 : up (up (up (up W (111 + 3 * n) f) (111 + 3 * n + 1) b) (111 + 3 * n + 2) t) 110 (n + 1) 110 = n + 1 := up_eq _ _ _
  have old : ∀ q c, q < n → c < 3 → up (up (up (up W (111 + 3 * n) f) (111 + 3 * n + 1) b) (111 + 3 * n + 2) t) 110 (n + 1) (111 + c + 3 * q) = W (111 + c + 3 * q) := by
    intro q c hq hc
    rw [up_ne (by omega), up_ne (by omega), up_ne (by omega), up_ne (by omega)]
  have n0 : up (up (up (up W (111 + 3 * n) f) (111 + 3 * n + 1) b) (111 + 3 * n + 2) t) 110 (n + 1) (111 + 3 * n) = f := by rw [up_ne (by omega), up_ne (by omega), up_ne (by omega), up_eq]
  have n1 : up (up (up (up W (111 + 3 * n) f) (111 + 3 * n + 1) b) (111 + 3 * n + 2) t) 110 (n + 1) (112 + 3 * n) = b := by rw [show 112 + 3 * n = 111 + 3 * n + 1 by omega, up_ne (by omega), up_ne (by omega), up_eq]
  have n2 : up (up (up (up W (111 + 3 * n) f) (111 + 3 * n + 1) b) (111 + 3 * n + 2) t) 110 (n + 1) (113 + 3 * n) = t := by rw [show 113 + 3 * n = 111 + 3 * n + 2 by omega, up_ne (by omega), up_eq]
  generalize up (up (up (up W (111 + 3 * n) f) (111 + 3 * n + 1) b) (111 + 3 * n + 2) t) 110 (n + 1) = V at *
  refine ⟨fun k hk => ?_, fun k hk => ?_, ?_, fun q hq => ?_, fun q hq => ?_⟩
  · rw [lo _ (by omega), lo _ (by omega), lo _ (by omega)]
    exact h1 k hk
  · rw [lo _ (by omega), lo _ (by omega), pgs_congr (W := W) (lo 19 (by decide)) (fun i hi => lo _ (by omega))]
    exact h2 k hk
  · rw [lo 17 (by omega), lo 18 (by omega), lo 19 (by omega), e19]
    simp only [g_sI, Nat.reduceEqDiff, false_and, and_false, if_false, and_self, if_true, true_and]
    exact ⟨h3.1, h3.2.2⟩
  · rw [lo 19 (by omega)] at hq
    rw [lo _ (by omega), lo _ (by omega), lo _ (by omega)]
    exact h4 q hq
  · rw [e19] at hq
    simp only [g_sI, Nat.reduceEqDiff, false_and, if_false, true_and]
    by_cases z : q = n
    · rw [if_pos z, z, n0, n1, n2]
    · have o0 := old q 0 (by omega) (by decide)
      have o1 := old q 1 (by omega) (by decide)
      have o2 := old q 2 (by omega) (by decide)
      simp only [Nat.add_zero] at o0
      rw [if_neg z, o0, o1, o2]
      exact h5 q (by omega)
theorem CW.shift (h : CW σ j K W) (hK : K ≤ 4) (h19 : W 19 ≤ 30) (h110 : W 110 = 60) : CW (sI (sA σ 48 j (cpyF (σ.1 48 j) (σ.1 48 j) 1 0 59)) 8 j 9 59) j K (shfL W) := by
  obtain ⟨h1, h2, h3, h4, h5⟩ := h
  have lo : ∀ p, p < 110 → shfL W p = W p := by intro p hp; unfold shfL; rw [if_neg (by omega), if_neg (by omega)]
  have e110 : shfL W 110 = 59 := by unfold shfL; rw [if_pos rfl]
  have sh : ∀ q c, q < 59 → c < 3 → shfL W (111 + c + 3 * q) = W (111 + c + 3 * (q + 1)) := by
    intro q c hq hc
    unfold shfL
    rw [if_neg (by omega), if_pos (by omega)]
    rfl
  generalize shfL W = V at *
  refine ⟨fun k hk => ?_, fun k hk => ?_, ?_, fun q hq => ?_, fun q hq => ?_⟩
  · rw [lo _ (by omega), lo _ (by omega), lo _ (by omega)]
    exact h1 k hk
  · rw [lo _ (by omega), lo _ (by omega), pgs_congr (W := W) (lo 19 (by decide)) (fun i hi => lo _ (by omega))]
    exact h2 k hk
  · rw [lo 17 (by omega), lo 18 (by omega), lo 19 (by omega), e110]
    simp only [g_sI, g_sA, Nat.reduceEqDiff, false_and, and_false, if_false, and_self, if_true, true_and]
    exact ⟨h3.1, h3.2.2⟩
  · rw [lo 19 (by omega)] at hq
    rw [lo _ (by omega), lo _ (by omega), lo _ (by omega)]
    exact h4 q hq
  · rw [e110] at hq
    have o0 := sh q 0 (by omega) (by decide)
    have o1 := sh q 1 (by omega) (by decide)
    have o2 := sh q 2 (by omega) (by decide)
    simp only [Nat.add_zero] at o0
    rw [o0, show 112 + 3 * q = 111 + 1 + 3 * q by omega, o1, show 113 + 3 * q = 111 + 2 + 3 * q by omega, o2]
    simp only [g_sI, g_sA, Nat.reduceEqDiff, false_and, if_false, and_self, if_true, cpyF]
    rw [if_pos (by omega), show 1 + (q - 0) = q + 1 by omega]
    exact h5 (q + 1) (by omega)
end PGS
