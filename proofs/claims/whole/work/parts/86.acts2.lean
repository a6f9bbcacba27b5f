/-! ===== 86 the acts: year, hold, arm, teach, swear, burn, give ===== -/
theorem WW.lowY {K : Nat} {Y Y' : Int} {W : Nat → Int} (h : WW K Y W) (hY : W 18 ≤ Y') : WW K Y' W := by
  obtain ⟨h1, h2, h3, h4, h5, h6, h7, h8, h9⟩ := h
  exact ⟨h1, h2, h3, h4, by omega, h6, h7, h8, h9⟩
theorem PF.lo {F : Nat} {V W : Nat → Int} (h : ∀ p, 19 ≤ p → p < 110 → V p = W p) (h30 : W 19 ≤ 30) (hP : PF F W) : PF F V := by
  intro i hi
  rw [h 19 (by decide) (by decide)] at hi
  rw [h (20 + 3 * i) (by omega) (by omega)]
  exact hP i hi
theorem PF.upl {F : Nat} {W : Nat → Int} {p : Nat} {v : Int} (hp : p < 19) (hP : PF F W) : PF F (up W p v) := by
  intro i hi
  rw [up_ne (by omega)] at hi ⊢
  exact hP i hi
theorem PF.burn {F i : Nat} {W : Nat → Int} (hP : PF F W) : PF F (burnS W i) := by
  intro q hq
  rw [burn_19] at hq
  have := burn_pg (W := W) (i := i) (q := q) (c := 0) (by decide) hq
  rw [Nat.add_zero] at this
  rw [this]
  split
  · exact hP q (by omega)
  · exact hP (q + 1) (by omega)
theorem PF.wri {F : Nat} {W : Nat → Int} {f who tells : Int} (hP : PF F W) (hf : f < F) (h19 : 0 ≤ W 19) : PF F (wriS W f who tells) := by
  unfold wriS
  have key : ∀ V : Nat → Int, PF F V → 0 ≤ V 19 → PF F (up (up (up (up V (20 + 3 * (V 19).toNat) f) (20 + 3 * (V 19).toNat + 1) who) (20 + 3 * (V 19).toNat + 2) tells) 19 (V 19 + 1)) := by
    intro V hV h0 i hi
    rw [up_eq] at hi
    rw [up_ne (by omega), up_ne (by omega), up_ne (by omega)]
    simp only [up_at]
    split
    · exact hf
    · exact hV i (by omega)
  by_cases z : W 19 = 30
  · simp only [if_pos z]
    exact key _ hP.burn (by rw [burn_19]; omega)
  · simp only [if_neg z]
    exact key _ hP h19
theorem log_lo {W : Nat → Int} {f b t : Int} {p : Nat} (hp : p < 110) : logS W f b t p = W p := by
  unfold logS
  by_cases z : W 110 = 60
  · simp only [if_pos z]
    rw [up_ne (by omega), up_ne (by omega), up_ne (by omega), up_ne (by omega)]
    unfold shfL
    rw [if_neg (by omega), if_neg (by omega)]
  · simp only [if_neg z]
    rw [up_ne (by omega), up_ne (by omega), up_ne (by omega), up_ne (by omega)]
theorem wri_19 {W : Nat → Int} {f b t : Int} (h : 0 ≤ W 19 ∧ W 19 ≤ 30) : wriS W f b t 19 ≤ 30 := by
  unfold wriS
  by_cases z : W 19 = 30
  · simp only [if_pos z]
    rw [up_eq, burn_19]
    omega
  · simp only [if_neg z]
    rw [up_eq]
    omega
theorem PF.yearW {F f : Nat} {ru0 s : Int} {G W : Nat → Int} (hP : PF F W) (hf : f < F) (h19 : 0 ≤ W 19 ∧ W 19 ≤ 30) (hb : 4 * (yBt G f s).toNat + 2 < 19) (hw : 4 * (yWon G f s).toNat + 3 < 19) : PF F (yW ru0 G W f s) := by
  have e19 : yV3 ru0 W (yWon G f s).toNat (yBt G f s).toNat 19 = W 19 := by
    unfold yV3
    rw [up_ne (by omega), up_ne (by omega), up_ne (by omega)]
  have hV : PF F (yV ru0 G W f s) ∧ yV ru0 G W f s 19 ≤ 30 := by
    unfold yV
    split
    · exact ⟨hP, h19.2⟩
    · refine ⟨PF.upl (by decide) (PF.wri ?_ (by omega) (by omega)), ?_⟩
      · unfold yV3
        exact ((hP.upl (by omega)).upl (by omega)).upl (by omega)
      · rw [up_ne (by decide)]
        exact wri_19 (by omega)
  unfold yW
  refine PF.lo (W := yV ru0 G W f s) (fun p h1 h2 => ?_) hV.2 hV.1
  rw [log_lo h2, up_ne (by omega)]
/-- a year's world, within its bounds -/
theorem yearOK {K F : Nat} {ru G W : Nat → Int} {Y : Int} {lw : Option (List Int)} (hR : RW K F ru G) (hW : WW K Y W) (hP : PF F W) : WW K (Y + 1) (yW (ru 0) G W (fld W F) (sidN lw G W (fld W F))) ∧ PF F (yW (ru 0) G W (fld W F) (sidN lw G W (fld W F))) := by
  have hf : fld W F < F := Nat.mod_lt _ (by have := hR.2.1; omega)
  have hs : sidN lw G W (fld W F) = -1 ∨ sidN lw G W (fld W F) = 0 ∨ sidN lw G W (fld W F) = 1 := sid2_in _ _
  obtain ⟨q1, q2, q3⟩ := yr_in hR hW hf hs
  refine ⟨hW.yearW hR hf hs, hP.yearW hf hW.2.2.2.2.2.1 (by omega) ?_⟩
  have hg := hR.at hf
  have hK := hR.1
  unfold yWon
  split <;> omega
theorem tkOK {K F : Nat} {W : Nat → Int} {Y kind k : Int} (hK : K ≤ 4) (hW : WW K Y W) (hP : PF F W) (hc : canP K W kind k) (h0 : kind ≠ 0) : WW K Y (tkS kind k.toNat W) ∧ PF F (tkS kind k.toNat W) := by
  unfold canP at hc
  have hk : 0 ≤ k ∧ k < K := by omega
  obtain ⟨i, rfl⟩ := Int.eq_ofNat_of_zero_le hk.1
  simp only [Int.toNat_natCast] at hc ⊢
  obtain ⟨x1, x2, x3⟩ := hW.1 i (by omega)
  have x17 := hW.2.2.2.1
  have x16 := hW.2.2.1
  have sp : ∀ (what : Nat) (price : Int), what ≤ 2 → 0 ≤ price → price ≤ W 17 → (what = 0 → W (4 * i) < 30) → (what = 2 → W (4 * i + 2) < 9) → (what = 1 → 0 < W (4 * i + 1)) → WW K Y (spS W i what price) ∧ PF F (spS W i what price) := by
    intro what price hwh hp1 hp2 c0 c2 c1
    unfold spS
    refine ⟨WW.upd (hW.upd (by decide) (fun k hk => ⟨fun q => (by omega), fun q => (by omega), fun q => (by omega)⟩) (fun k hk q => by omega) (fun q => by omega) (fun q => by omega) (fun q => by omega)) (by omega) (fun k hk => ?_) (fun k hk q => by omega) (fun q => by omega) (fun q => by omega) (fun q => by omega), (hP.upl (by decide)).upl (by omega)⟩
    rcases (show what = 0 ∨ what = 1 ∨ what = 2 by omega) with rfl | rfl | rfl
    · rw [if_neg (by decide)]
      have := c0 rfl
      exact ⟨fun q => by rw [Nat.add_zero]; omega, fun q => by omega, fun q => by omega⟩
    · rw [if_pos rfl]
      have := c1 rfl
      exact ⟨fun q => by omega, fun q => by omega, fun q => by omega⟩
    · rw [if_neg (by decide)]
      have := c2 rfl
      exact ⟨fun q => by omega, fun q => by omega, fun q => by omega⟩
  unfold tkS
  split
  · obtain ⟨x, hx⟩ := Int.eq_ofNat_of_zero_le x16.1
    have hx2 : x < 2 ^ K := by
      have := x16.2
      rw [hx] at this
      exact_mod_cast this
    have xr := xor_r K hK x hx2 i (by omega)
    rw [hx]
    exact ⟨hW.upd (by decide) (fun k hk => ⟨fun q => (by omega), fun q => (by omega), fun q => (by omega)⟩) (fun k hk q => by omega) (fun q => xr) (fun q => by omega) (fun q => by omega), hP.upl (by decide)⟩
  · split
    · exact sp 0 2 (by decide) (by decide) (by omega) (fun _ => by omega) (fun q => absurd q (by decide)) (fun q => absurd q (by decide))
    · split
      · exact sp 2 3 (by decide) (by decide) (by omega) (fun q => absurd q (by decide)) (fun _ => by omega) (fun q => absurd q (by decide))
      · exact sp 1 4 (by decide) (by decide) (by omega) (fun q => absurd q (by decide)) (fun q => absurd q (by decide)) (fun _ => by omega)
/-- what the model remembers -/
theorem UM.keep {σ τ : jM} {U : List (Nat → Int)} {W : Nat → Int} (h : UM σ U) (h40 : U.length ≤ 40) (hr : τ.1 72 0 = remS (σ.1 72 0) W U.length) (ha : τ.1 10 0 39 = min 40 ((U.length : Int) + 1)) : UM τ (keepU U W) := by
  obtain ⟨h1, h2⟩ := h
  have hl := keepU_len (W := W) h40
  refine ⟨by rw [ha, hl]; omega, fun i hi p hp => ?_⟩
  rw [hl] at hi
  rw [hr]
  unfold remS keepU
  by_cases z : U.length = 40
  · rw [if_pos z, if_pos z]
    by_cases y : i = 39
    · subst y
      rw [show 291 * 39 + p = 291 * 39 + p from rfl, cp_in hp, List.getD_eq_getElem?_getD, List.getElem?_append_right (by simp only [List.length_tail]; omega), show 39 - U.tail.length = 0 by simp only [List.length_tail]; omega]
      rfl
    · rw [cp_out (Or.inl (by omega))]
      rw [if_pos (by omega), show 291 * i + p + 291 = 291 * (i + 1) + p by omega, h2 (i + 1) (by omega) p hp, List.getD_eq_getElem?_getD, List.getD_eq_getElem?_getD, List.getElem?_append_left (by simp only [List.length_tail]; omega), List.getElem?_tail]
  · rw [if_neg z, if_neg z]
    by_cases y : i = U.length
    · subst y
      rw [cp_in hp, List.getD_eq_getElem?_getD, List.getElem?_append_right (Nat.le_refl _), Nat.sub_self]
      rfl
    · rw [cp_out (Or.inl (by omega)), h2 i (by omega) p hp, List.getD_eq_getElem?_getD, List.getD_eq_getElem?_getD, List.getElem?_append_left (by omega)]
theorem keepU_all {Q : (Nat → Int) → Prop} {U : List (Nat → Int)} {W : Nat → Int} (h : ∀ V ∈ U, Q V) (hW : Q W) : ∀ V ∈ keepU U W, Q V := by
  intro V hV
  unfold keepU at hV
  rcases List.mem_append.mp hV with q | q
  · split at q
    · exact h V (List.mem_of_mem_tail q)
    · exact h V q
  · rw [List.mem_singleton.mp q]; exact hW
/-- places that an act may change -/
def Sx : jS := fun k j o => SAk k j o ∨ SY 0 k j o ∨ Sd k j o ∨ SR k j o ∨ (k = 69 ∧ j = 0)
/-- the state behind an act -/
theorem Jx.act {σ τ : jM} {n : Nat} {T : Nat → Int} {K F r N P : Nat} {CL : Nat → List Int} {PL : Nat → List (Int × Int)} {U : List (Nat → Int)} {nt : List jN} (h : Jx σ n T K F r N P CL PL U nt) (hF : Fr Sx σ τ) (hA : AK τ K (keepU U (σ.1 69 0))) (hU : UM τ (keepU U (σ.1 69 0))) (hW : JW τ K F) (hM : MI τ N CL) : Jx τ n T K F r N P CL PL (keepU U (σ.1 69 0)) nt := by
  obtain ⟨h1, h2, h3, h4, h5, h6, h7, h8, h9, h10⟩ := h
  have r2 := h2.2.2.1
  refine ⟨h1.fr hF ?_, h2.fr hF ?_, hW, ⟨hA, keepU_all h4.2.1 h3.2, hU⟩, h5.fr hF ?_, h6.fr hF ?_, hM, h8.fr hF ?_, h9.fr hF ?_, h10.fr hF ?_⟩
  all_goals (intro k j o q w; simp only [fR, fW, fA, fC, fU, fI, fK, fM, fP, fN, fD, fE, fG, fT, Sx, Sc, Sd, SW, SAk, SR, SP, SY] at q w; omega)
