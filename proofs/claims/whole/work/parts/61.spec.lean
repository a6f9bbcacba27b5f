/-! ===== 61 what a world is worth: force, sides; the model's ===== -/
def cnt (W : Nat → Int) (k : Int) : Nat → Int
  | 0 => 0
  | i + 1 => cnt W k i + if W (21 + 3 * i) = k then 1 else 0
def pgs (W : Nat → Int) (k : Int) : Int := cnt W k (W 19).toNat
def frc (lw : Option (List Int)) (G W : Nat → Int) (f side : Nat) : Int :=
  max 0 (min 60 (match lw with
    | none => W (4 * (G (4 * f + side)).toNat) + (if side = 0 then G (4 * f + 2) else 0) - W (4 * (G (4 * f + side)).toNat + 3) / 2
    | some c => lawV (env6 (W (4 * (G (4 * f + side)).toNat)) (if side = 0 then G (4 * f + 2) else 0) (W (4 * (G (4 * f + side)).toNat + 2)) (pgs W (G (4 * f + side))) (W (4 * (G (4 * f + side)).toNat + 3)) (W 18)) c))
def frcH (lw : Option (List Int)) (G W : Nat → Int) (f side : Nat) (holds : Int) : Int := if holds = 0 then frc lw G W f side else frc lw G W f side / 2
def sid2 (a b : Int) : Int := if a = b then -1 else if b < a then 0 else 1
def sidS (lw : Option (List Int)) (G W : Nat → Int) (f : Nat) (one other : Int) : Int := sid2 (frcH lw G W f 0 one) (frcH lw G W f 1 other)
def bt (x : Int) (k : Nat) : Int := x / 2 ^ k % 2
def sidN (lw : Option (List Int)) (G W : Nat → Int) (f : Nat) : Int := sidS lw G W f (bt (W 16) (G (4 * f)).toNat) (bt (W 16) (G (4 * f + 1)).toNat)
/-- a realm: K kingdoms, F fields -/
def RW (K F : Nat) (ru G : Nat → Int) : Prop := (2 ≤ K ∧ K ≤ 4) ∧ (1 ≤ F ∧ F ≤ 8) ∧ (0 ≤ ru 0 ∧ ru 0 ≤ 9) ∧ (0 ≤ ru 1 ∧ ru 1 ≤ 99) ∧ ∀ f, f < F → (0 ≤ G (4 * f) ∧ G (4 * f) < K) ∧ (0 ≤ G (4 * f + 1) ∧ G (4 * f + 1) < K) ∧ G (4 * f) ≠ G (4 * f + 1) ∧ (0 ≤ G (4 * f + 2) ∧ G (4 * f + 2) ≤ 9) ∧ (0 ≤ G (4 * f + 3) ∧ G (4 * f + 3) ≤ 20)
/-- a world: might, bias, style, wins of kingdoms; 16 who holds back, 17 coins, 18 the year, 19 pages, 110 the log -/
def WW (K : Nat) (Y : Int) (W : Nat → Int) : Prop :=
  (∀ k, k < K → (0 ≤ W (4 * k) ∧ W (4 * k) ≤ 30) ∧ (0 ≤ W (4 * k + 1) ∧ W (4 * k + 1) ≤ 9) ∧ (0 ≤ W (4 * k + 2) ∧ W (4 * k + 2) ≤ 9)) ∧
  (∀ k, k < 4 → (0 ≤ W (4 * k + 3) ∧ W (4 * k + 3) ≤ 999) ∧ (K ≤ k → W (4 * k + 3) = 0)) ∧ (0 ≤ W 16 ∧ W 16 < 2 ^ K) ∧ (0 ≤ W 17 ∧ W 17 ≤ 999) ∧ (0 ≤ W 18 ∧ W 18 ≤ Y) ∧ (0 ≤ W 19 ∧ W 19 ≤ 30) ∧
  (∀ i : Nat, (i : Int) < W 19 → (0 ≤ W (20 + 3 * i) ∧ W (20 + 3 * i) ≤ 7) ∧ (0 ≤ W (21 + 3 * i) ∧ W (21 + 3 * i) < K) ∧ (0 ≤ W (22 + 3 * i) ∧ W (22 + 3 * i) ≤ 29)) ∧ (0 ≤ W 110 ∧ W 110 ≤ 60) ∧
  ∀ i : Nat, (i : Int) < W 110 → (0 ≤ W (111 + 3 * i) ∧ W (111 + 3 * i) ≤ 7) ∧ (-1 ≤ W (112 + 3 * i) ∧ W (112 + 3 * i) ≤ 3) ∧ (-1 ≤ W (113 + 3 * i) ∧ W (113 + 3 * i) ≤ 29)
theorem jln69 (j : Nat) : jln 69 j = 291 := by cases j <;> rfl
theorem cnt_in (W : Nat → Int) (k : Int) : ∀ n, 0 ≤ cnt W k n ∧ cnt W k n ≤ n
  | 0 => ⟨Int.le_refl 0, Int.le_refl 0⟩
  | n + 1 => by
    have := cnt_in W k n
    unfold cnt
    split <;> omega
theorem pgs_in {K : Nat} {Y : Int} {W : Nat → Int} (h : WW K Y W) (k : Int) : 0 ≤ pgs W k ∧ pgs W k ≤ 30 := by
  have := cnt_in W k (W 19).toNat
  have h19 := h.2.2.2.2.2.1
  unfold pgs
  omega
theorem frc_in (lw : Option (List Int)) (G W : Nat → Int) (f side : Nat) : 0 ≤ frc lw G W f side ∧ frc lw G W f side ≤ 60 := by unfold frc; omega
theorem frcH_in (lw : Option (List Int)) (G W : Nat → Int) (f side : Nat) (h : Int) : 0 ≤ frcH lw G W f side h ∧ frcH lw G W f side h ≤ 60 := by
  have := frc_in lw G W f side
  unfold frcH
  split <;> omega
theorem sid2_in (a b : Int) : sid2 a b = -1 ∨ sid2 a b = 0 ∨ sid2 a b = 1 := by
  unfold sid2
  split
  · exact Or.inl rfl
  · split
    · exact Or.inr (Or.inl rfl)
    · exact Or.inr (Or.inr rfl)
theorem bt_in (x : Int) (k : Nat) : bt x k = 0 ∨ bt x k = 1 := by unfold bt; omega
theorem Fr.row {S : jS} {σ τ : jM} (h : Fr S σ τ) {k j : Nat} (hs : ∀ o, ¬ S k j o) : τ.1 k j = σ.1 k j := by funext o; exact h.i (hs o)
/-- the law that holds in the model -/
def LWm (σ : jM) (N : Nat) (CL : Nat → List Int) (lw : Option (List Int)) : Prop := (σ.1 10 0 34 = -1 ∧ lw = none) ∨ ∃ L : Nat, L < N ∧ σ.1 10 0 34 = L ∧ lw = some (CL L)
theorem nSM69 {j o : Nat} : ¬ SM 69 j o := by unfold SM; omega
theorem nSM66 {j o : Nat} : ¬ SM 66 j o := by unfold SM; omega
theorem nSM63 {j o : Nat} : ¬ SM 63 j o := by unfold SM; omega
theorem nSM34 : ¬ SM 10 0 34 := by unfold SM; omega
theorem LWm.fr {S : jS} {σ τ : jM} {N : Nat} {CL : Nat → List Int} {lw : Option (List Int)} (h : Fr S σ τ) (hs : ¬ S 10 0 34) (H : LWm σ N CL lw) : LWm τ N CL lw := by
  unfold LWm at *
  rw [h.i hs]
  exact H
theorem ok_MO_pagesOf {σ : jM} {Φ : jPh} {d j : Nat} {k : Int} (h19 : 0 ≤ σ.1 69 j 19 ∧ σ.1 69 j 19 ≤ 30) (h : Φ (some (.inl (pgs (σ.1 69 j) k))) σ) : Ct (d + 1) M_MO_pagesOf [rf 69 j, .inl k] σ Φ := by
  refine i_MO_pagesOf (Nat.le_add_right 2 2) (fun At h4 => ?_)
  have key : ∀ (m i : Nat), i + m = (σ.1 69 j 19).toNat → At 4 [some (rf 69 j), some (.inl k), some (.inl (cnt (σ.1 69 j) k i)), some (.inl i)] [] σ := by
    intro m
    induction m with
    | zero =>
      intro i hi
      refine h4 _ _ _ ?_
      simp only [w_MO_pagesOf_4, w_MO_pagesOf_38, c_ic, c_lc, c_nul, c_il, c_ll, c_al, c_is, c_ls, c_as, c_inc, c_b2, c_b2n, c_b1, c_d2, c_d2n, c_dsh, c_i2l, c_l2i, c_lcm, c_dup, c_dup2, c_pop, c_j1, c_j2, c_jn, c_sw0, c_sw, c_gI, c_gL, c_gR, c_gS, c_pI, c_pZ, c_pL, c_pR, c_iald, c_ialg, c_iast, c_iasg, c_bald, c_bast, c_lald, c_last, c_aald, c_aals, c_aast, c_alen, c_bnd, c_str, c_bndl, c_bnln, c_sval, c_scod, c_sbal, c_sbln, c_fmt, c_stop, c_iret, c_zret, c_nret, c_aret, c_vret, c_lret, c_cpy, c_callV, c_callS, tkA, lget, lput, lkill, jpush, vsz, jcat, lins, lent, List.length_cons, List.length_nil, List.replicate, List.append_nil, List.cons_append, List.nil_append, reduceIte, Nat.reduceAdd, Nat.reduceSub, Nat.reduceEqDiff, true_and, and_true, Nat.reduceLeDiff, Nat.lt_irrefl, Nat.succ_ne_self, forall_const, ne_eq, not_true_eq_false, not_false_eq_true, false_implies, implies_true, true_implies, true_or, or_true, or_false, false_or, eq_self, Int.reduceEq, Int.reduceLT, Int.reduceLE, Int.reduceNeg, Int.reduceToNat, Int.reduceAdd, Int.reduceSub, Int.reduceMul, Int.reduceNe, and_self, jln69]
      refine ⟨by decide, by decide, fun _ => ?_, fun z => absurd z (by omega)⟩
      rw [show i = (σ.1 69 j 19).toNat by omega]
      exact h
    | succ m ih =>
      intro i hi
      refine h4 _ _ _ ?_
      have hc := cnt_in (σ.1 69 j) k i
      have e1 : wr (21 + wr (3 * (i : Int))) = ((21 + 3 * i : Nat) : Int) := by simp (disch := omega) only [wr_id]; omega
      have := ih (i + 1) (by omega)
      unfold cnt at this
      simp only [w_MO_pagesOf_4, w_MO_pagesOf_29, w_MO_pagesOf_30, c_ic, c_lc, c_nul, c_il, c_ll, c_al, c_is, c_ls, c_as, c_inc, c_b2, c_b2n, c_b1, c_d2, c_d2n, c_dsh, c_i2l, c_l2i, c_lcm, c_dup, c_dup2, c_pop, c_j1, c_j2, c_jn, c_sw0, c_sw, c_gI, c_gL, c_gR, c_gS, c_pI, c_pZ, c_pL, c_pR, c_iald, c_ialg, c_iast, c_iasg, c_bald, c_bast, c_lald, c_last, c_aald, c_aals, c_aast, c_alen, c_bnd, c_str, c_bndl, c_bnln, c_sval, c_scod, c_sbal, c_sbln, c_fmt, c_stop, c_iret, c_zret, c_nret, c_aret, c_vret, c_lret, c_cpy, c_callV, c_callS, tkA, lget, lput, lkill, jpush, vsz, jcat, lins, lent, List.length_cons, List.length_nil, List.replicate, List.append_nil, List.cons_append, List.nil_append, reduceIte, Nat.reduceAdd, Nat.reduceSub, Nat.reduceEqDiff, true_and, and_true, Nat.reduceLeDiff, Nat.lt_irrefl, Nat.succ_ne_self, forall_const, ne_eq, not_true_eq_false, not_false_eq_true, false_implies, implies_true, true_implies, true_or, or_true, or_false, false_or, eq_self, Int.reduceEq, Int.reduceLT, Int.reduceLE, Int.reduceNeg, Int.reduceToNat, Int.reduceAdd, Int.reduceSub, Int.reduceMul, Int.reduceNe, and_self, jln69, e1, Int.toNat_natCast]
      refine ⟨by decide, by decide, fun z => absurd z (by omega), fun _ => ⟨by decide, ⟨by omega, by omega⟩, fun z => ?_, fun z => ?_⟩⟩
      · rw [if_neg z] at this
        rw [inc_nat (by omega), wr_id (by omega) (by omega)]
        exact this
      · rw [if_pos (Classical.not_not.mp z)] at this
        rw [inc_nat (by omega), wr_id (by omega) (by omega)]
        exact this
  simp only [w_MO_pagesOf_0, c_ic, c_lc, c_nul, c_il, c_ll, c_al, c_is, c_ls, c_as, c_inc, c_b2, c_b2n, c_b1, c_d2, c_d2n, c_dsh, c_i2l, c_l2i, c_lcm, c_dup, c_dup2, c_pop, c_j1, c_j2, c_jn, c_sw0, c_sw, c_gI, c_gL, c_gR, c_gS, c_pI, c_pZ, c_pL, c_pR, c_iald, c_ialg, c_iast, c_iasg, c_bald, c_bast, c_lald, c_last, c_aald, c_aals, c_aast, c_alen, c_bnd, c_str, c_bndl, c_bnln, c_sval, c_scod, c_sbal, c_sbln, c_fmt, c_stop, c_iret, c_zret, c_nret, c_aret, c_vret, c_lret, c_cpy, c_callV, c_callS, tkA, lget, lput, lkill, jpush, vsz, jcat, lins, lent, List.length_cons, List.length_nil, List.replicate, List.append_nil, List.cons_append, List.nil_append, reduceIte, Nat.reduceAdd, Nat.reduceSub, Nat.reduceEqDiff, true_and, and_true, Nat.reduceLeDiff, Nat.lt_irrefl, Nat.succ_ne_self, forall_const, ne_eq, not_true_eq_false, not_false_eq_true, false_implies, implies_true, true_implies, true_or, or_true, or_false, false_or, eq_self, Int.reduceEq, Int.reduceLT, Int.reduceLE, Int.reduceNeg, Int.reduceToNat, Int.reduceAdd, Int.reduceSub, Int.reduceMul, Int.reduceNe, and_self]
  exact key _ 0 (Nat.zero_add _)
theorem ok_MO_forceBy {σ : jM} {Φ : jPh} {d N K F j f side : Nat} {CL : Nat → List Int} {lw : Option (List Int)} {Y holds : Int} (hI : MI σ N CL) (hL : LWm σ N CL lw) (hR : RW K F (σ.1 63 0) (σ.1 66 0)) (hW : WW K Y (σ.1 69 j)) (hY : Y ≤ 1999) (hf : f < F) (hs : side < 2) (h : ∀ τ, Fr SM σ τ → MI τ N CL → Φ (some (.inl (frcH lw (σ.1 66 0) (σ.1 69 j) f side holds))) τ) : Ct (d + 34) M_MO_forceBy [rf 10 0, rf 69 j, .inl f, .inl side, .inl holds] σ Φ := by
  refine i_MO_forceBy (Nat.le_add_right 5 3) ?_
  obtain ⟨⟨rK, rK4⟩, ⟨rF, rF8⟩, -, -, rG⟩ := hR
  obtain ⟨g0, g1, -, g2, -⟩ := rG f hf
  have hW' := hW
  obtain ⟨wk, ww, -, -, wy, wp, -⟩ := hW'
  -- who meets there
  obtain ⟨k, hk⟩ : ∃ k : Nat, σ.1 66 0 (4 * f + side) = k := by
    rcases (show side = 0 ∨ side = 1 by omega) with rfl | rfl
    · exact ⟨_, (Int.toNat_of_nonneg g0.1).symm⟩
    · exact ⟨_, (Int.toNat_of_nonneg g1.1).symm⟩
  have hkK : k < K := by
    rcases (show side = 0 ∨ side = 1 by omega) with rfl | rfl
    · have : σ.1 66 0 (4 * f + 0) = k := hk
      rw [Nat.add_zero] at this
      omega
    · omega
  obtain ⟨m1, -, m3⟩ := wk k hkK
  obtain ⟨m4, -⟩ := ww k (by omega)
  obtain ⟨on, hon, ho9⟩ : ∃ on : Int, (if side = 0 then σ.1 66 0 (4 * f + 2) else 0) = on ∧ 0 ≤ on ∧ on ≤ 9 := by
    refine ⟨_, rfl, ?_⟩
    split <;> omega
  have e1 : wr (wr (4 * (f : Int)) + side) = ((4 * f + side : Nat) : Int) := by simp (disch := omega) only [wr_id]; omega
  have e2 : wr (wr (4 * (f : Int)) + 2) = ((4 * f + 2 : Nat) : Int) := by simp (disch := omega) only [wr_id]; omega
  have k0 : wr (wr (4 * (k : Int)) + 0) = ((4 * k : Nat) : Int) := by simp (disch := omega) only [wr_id]; omega
  have k2 : wr (wr (4 * (k : Int)) + 2) = ((4 * k + 2 : Nat) : Int) := by simp (disch := omega) only [wr_id]; omega
  have k3 : wr (wr (4 * (k : Int)) + 3) = ((4 * k + 3 : Nat) : Int) := by simp (disch := omega) only [wr_id]; omega
  unfold frcH frc at h
  rw [hk, hon, Int.toNat_natCast] at h
  -- the end
  have fin : ∀ (v : Int) (τ : jM) (x7 : Option jV), (∀ Z, Z = max 0 (min 60 v) → Φ (some (.inl (if holds = 0 then Z else Z / 2))) τ) → w_MO_forceBy_106 Φ (d + 33) [some (rf 10 0), some (rf 69 j), some (.inl f), some (.inl side), some (.inl holds), some (.inl k), some (.inl on), some (.inl v)] [] τ := by
    intro v τ _ hq
    simp only [w_MO_forceBy_106, w_MO_forceBy_131, w_MO_forceBy_133, c_ic, c_lc, c_nul, c_il, c_ll, c_al, c_is, c_ls, c_as, c_inc, c_b2, c_b2n, c_b1, c_d2, c_d2n, c_dsh, c_i2l, c_l2i, c_lcm, c_dup, c_dup2, c_pop, c_j1, c_j2, c_jn, c_sw0, c_sw, c_gI, c_gL, c_gR, c_gS, c_pI, c_pZ, c_pL, c_pR, c_iald, c_ialg, c_iast, c_iasg, c_bald, c_bast, c_lald, c_last, c_aald, c_aals, c_aast, c_alen, c_bnd, c_str, c_bndl, c_bnln, c_sval, c_scod, c_sbal, c_sbln, c_fmt, c_stop, c_iret, c_zret, c_nret, c_aret, c_vret, c_lret, c_cpy, c_callV, c_callS, tkA, lget, lput, lkill, jpush, vsz, jcat, lins, lent, List.length_cons, List.length_nil, List.replicate, List.append_nil, List.cons_append, List.nil_append, reduceIte, Nat.reduceAdd, Nat.reduceSub, Nat.reduceEqDiff, true_and, and_true, Nat.reduceLeDiff, Nat.lt_irrefl, Nat.succ_ne_self, forall_const, ne_eq, not_true_eq_false, not_false_eq_true, false_implies, implies_true, true_implies, true_or, or_true, or_false, false_or, eq_self, Int.reduceEq, Int.reduceLT, Int.reduceLE, Int.reduceNeg, Int.reduceToNat, Int.reduceAdd, Int.reduceSub, Int.reduceMul, Int.reduceNe, and_self]
    refine ok_MA_min ?_
    simp only [c_ic, c_lc, c_nul, c_il, c_ll, c_al, c_is, c_ls, c_as, c_inc, c_b2, c_b2n, c_b1, c_d2, c_d2n, c_dsh, c_i2l, c_l2i, c_lcm, c_dup, c_dup2, c_pop, c_j1, c_j2, c_jn, c_sw0, c_sw, c_gI, c_gL, c_gR, c_gS, c_pI, c_pZ, c_pL, c_pR, c_iald, c_ialg, c_iast, c_iasg, c_bald, c_bast, c_lald, c_last, c_aald, c_aals, c_aast, c_alen, c_bnd, c_str, c_bndl, c_bnln, c_sval, c_scod, c_sbal, c_sbln, c_fmt, c_stop, c_iret, c_zret, c_nret, c_aret, c_vret, c_lret, c_cpy, c_callV, c_callS, tkA, lget, lput, lkill, jpush, vsz, jcat, lins, lent, List.length_cons, List.length_nil, List.replicate, List.append_nil, List.cons_append, List.nil_append, reduceIte, Nat.reduceAdd, Nat.reduceSub, Nat.reduceEqDiff, true_and, and_true, Nat.reduceLeDiff, Nat.lt_irrefl, Nat.succ_ne_self, forall_const, ne_eq, not_true_eq_false, not_false_eq_true, false_implies, implies_true, true_implies, true_or, or_true, or_false, false_or, eq_self, Int.reduceEq, Int.reduceLT, Int.reduceLE, Int.reduceNeg, Int.reduceToNat, Int.reduceAdd, Int.reduceSub, Int.reduceMul, Int.reduceNe, and_self]
    refine ok_MA_max ?_
    simp only [c_ic, c_lc, c_nul, c_il, c_ll, c_al, c_is, c_ls, c_as, c_inc, c_b2, c_b2n, c_b1, c_d2, c_d2n, c_dsh, c_i2l, c_l2i, c_lcm, c_dup, c_dup2, c_pop, c_j1, c_j2, c_jn, c_sw0, c_sw, c_gI, c_gL, c_gR, c_gS, c_pI, c_pZ, c_pL, c_pR, c_iald, c_ialg, c_iast, c_iasg, c_bald, c_bast, c_lald, c_last, c_aald, c_aals, c_aast, c_alen, c_bnd, c_str, c_bndl, c_bnln, c_sval, c_scod, c_sbal, c_sbln, c_fmt, c_stop, c_iret, c_zret, c_nret, c_aret, c_vret, c_lret, c_cpy, c_callV, c_callS, tkA, lget, lput, lkill, jpush, vsz, jcat, lins, lent, List.length_cons, List.length_nil, List.replicate, List.append_nil, List.cons_append, List.nil_append, reduceIte, Nat.reduceAdd, Nat.reduceSub, Nat.reduceEqDiff, true_and, and_true, Nat.reduceLeDiff, Nat.lt_irrefl, Nat.succ_ne_self, forall_const, ne_eq, not_true_eq_false, not_false_eq_true, false_implies, implies_true, true_implies, true_or, or_true, or_false, false_or, eq_self, Int.reduceEq, Int.reduceLT, Int.reduceLE, Int.reduceNeg, Int.reduceToNat, Int.reduceAdd, Int.reduceSub, Int.reduceMul, Int.reduceNe, and_self]
    have hq := hq _ rfl
    refine ⟨fun z => ?_, fun z => ?_⟩
    · rwa [if_pos z] at hq
    · rw [if_neg z] at hq
      rw [jdiv_eq (by omega) (by omega) (by decide) (by decide)]
      exact hq
  have mid : w_MO_forceBy_30 Φ (d + 33) [some (rf 10 0), some (rf 69 j), some (.inl f), some (.inl side), some (.inl holds), some (.inl k), none, none] [.inl on] σ := by
    simp only [w_MO_forceBy_30, c_ic, c_lc, c_nul, c_il, c_ll, c_al, c_is, c_ls, c_as, c_inc, c_b2, c_b2n, c_b1, c_d2, c_d2n, c_dsh, c_i2l, c_l2i, c_lcm, c_dup, c_dup2, c_pop, c_j1, c_j2, c_jn, c_sw0, c_sw, c_gI, c_gL, c_gR, c_gS, c_pI, c_pZ, c_pL, c_pR, c_iald, c_ialg, c_iast, c_iasg, c_bald, c_bast, c_lald, c_last, c_aald, c_aals, c_aast, c_alen, c_bnd, c_str, c_bndl, c_bnln, c_sval, c_scod, c_sbal, c_sbln, c_fmt, c_stop, c_iret, c_zret, c_nret, c_aret, c_vret, c_lret, c_cpy, c_callV, c_callS, tkA, lget, lput, lkill, jpush, vsz, jcat, lins, lent, List.length_cons, List.length_nil, List.replicate, List.append_nil, List.cons_append, List.nil_append, reduceIte, Nat.reduceAdd, Nat.reduceSub, Nat.reduceEqDiff, true_and, and_true, Nat.reduceLeDiff, Nat.lt_irrefl, Nat.succ_ne_self, forall_const, ne_eq, not_true_eq_false, not_false_eq_true, false_implies, implies_true, true_implies, true_or, or_true, or_false, false_or, eq_self, Int.reduceEq, Int.reduceLT, Int.reduceLE, Int.reduceNeg, Int.reduceToNat, Int.reduceAdd, Int.reduceSub, Int.reduceMul, Int.reduceNe, and_self, jln69, k0, k2, k3, Int.toNat_natCast]
    rw [jdiv_eq (by omega) (by omega) (by decide) (by decide), wr_id (x := σ.1 69 j (4 * k) + on) (by omega) (by omega), wr_id (x := σ.1 69 j (4 * k) + on - σ.1 69 j (4 * k + 3) / 2) (by omega) (by omega)]
    refine ⟨by decide, ⟨by omega, by omega⟩, by decide, ⟨by omega, by omega⟩, fun z => ?_, fun z => ⟨by decide, ⟨by omega, by omega⟩, by decide, ⟨by omega, by omega⟩, ?_⟩⟩
    · rcases hL with ⟨hl, rfl⟩ | ⟨L, hL1, hL2, rfl⟩
      · exact fin _ σ none (fun Z hZ => by rw [hZ]; exact h σ Fr.rf hI)
      · rw [hL2] at z; omega
    · rcases hL with ⟨hl, rfl⟩ | ⟨L, hL1, hL2, rfl⟩
      · exact absurd hl z
      · refine ok_MO_pagesOf wp ?_
        have hp := pgs_in hW k
        simp only [c_ic, c_lc, c_nul, c_il, c_ll, c_al, c_is, c_ls, c_as, c_inc, c_b2, c_b2n, c_b1, c_d2, c_d2n, c_dsh, c_i2l, c_l2i, c_lcm, c_dup, c_dup2, c_pop, c_j1, c_j2, c_jn, c_sw0, c_sw, c_gI, c_gL, c_gR, c_gS, c_pI, c_pZ, c_pL, c_pR, c_iald, c_ialg, c_iast, c_iasg, c_bald, c_bast, c_lald, c_last, c_aald, c_aals, c_aast, c_alen, c_bnd, c_str, c_bndl, c_bnln, c_sval, c_scod, c_sbal, c_sbln, c_fmt, c_stop, c_iret, c_zret, c_nret, c_aret, c_vret, c_lret, c_cpy, c_callV, c_callS, tkA, lget, lput, lkill, jpush, vsz, jcat, lins, lent, List.length_cons, List.length_nil, List.replicate, List.append_nil, List.cons_append, List.nil_append, reduceIte, Nat.reduceAdd, Nat.reduceSub, Nat.reduceEqDiff, true_and, and_true, Nat.reduceLeDiff, Nat.lt_irrefl, Nat.succ_ne_self, forall_const, ne_eq, not_true_eq_false, not_false_eq_true, false_implies, implies_true, true_implies, true_or, or_true, or_false, false_or, eq_self, Int.reduceEq, Int.reduceLT, Int.reduceLE, Int.reduceNeg, Int.reduceToNat, Int.reduceAdd, Int.reduceSub, Int.reduceMul, Int.reduceNe, and_self, jln69]
        refine ⟨by decide, ⟨by omega, by omega⟩, by decide, by decide, ?_⟩
        refine ok_MO_worthOf hI hL1 hL2 ⟨m1, ho9, m3, hp, m4, wy.1, by omega⟩ (fun τ t1 t2 => ?_)
        simp only [c_ic, c_lc, c_nul, c_il, c_ll, c_al, c_is, c_ls, c_as, c_inc, c_b2, c_b2n, c_b1, c_d2, c_d2n, c_dsh, c_i2l, c_l2i, c_lcm, c_dup, c_dup2, c_pop, c_j1, c_j2, c_jn, c_sw0, c_sw, c_gI, c_gL, c_gR, c_gS, c_pI, c_pZ, c_pL, c_pR, c_iald, c_ialg, c_iast, c_iasg, c_bald, c_bast, c_lald, c_last, c_aald, c_aals, c_aast, c_alen, c_bnd, c_str, c_bndl, c_bnln, c_sval, c_scod, c_sbal, c_sbln, c_fmt, c_stop, c_iret, c_zret, c_nret, c_aret, c_vret, c_lret, c_cpy, c_callV, c_callS, tkA, lget, lput, lkill, jpush, vsz, jcat, lins, lent, List.length_cons, List.length_nil, List.replicate, List.append_nil, List.cons_append, List.nil_append, reduceIte, Nat.reduceAdd, Nat.reduceSub, Nat.reduceEqDiff, true_and, and_true, Nat.reduceLeDiff, Nat.lt_irrefl, Nat.succ_ne_self, forall_const, ne_eq, not_true_eq_false, not_false_eq_true, false_implies, implies_true, true_implies, true_or, or_true, or_false, false_or, eq_self, Int.reduceEq, Int.reduceLT, Int.reduceLE, Int.reduceNeg, Int.reduceToNat, Int.reduceAdd, Int.reduceSub, Int.reduceMul, Int.reduceNe, and_self]
        exact fin _ τ none (fun Z hZ => by rw [hZ]; exact h τ t1 t2)
  simp only [w_MO_forceBy_0, w_MO_forceBy_29, c_ic, c_lc, c_nul, c_il, c_ll, c_al, c_is, c_ls, c_as, c_inc, c_b2, c_b2n, c_b1, c_d2, c_d2n, c_dsh, c_i2l, c_l2i, c_lcm, c_dup, c_dup2, c_pop, c_j1, c_j2, c_jn, c_sw0, c_sw, c_gI, c_gL, c_gR, c_gS, c_pI, c_pZ, c_pL, c_pR, c_iald, c_ialg, c_iast, c_iasg, c_bald, c_bast, c_lald, c_last, c_aald, c_aals, c_aast, c_alen, c_bnd, c_str, c_bndl, c_bnln, c_sval, c_scod, c_sbal, c_sbln, c_fmt, c_stop, c_iret, c_zret, c_nret, c_aret, c_vret, c_lret, c_cpy, c_callV, c_callS, tkA, lget, lput, lkill, jpush, vsz, jcat, lins, lent, List.length_cons, List.length_nil, List.replicate, List.append_nil, List.cons_append, List.nil_append, reduceIte, Nat.reduceAdd, Nat.reduceSub, Nat.reduceEqDiff, true_and, and_true, Nat.reduceLeDiff, Nat.lt_irrefl, Nat.succ_ne_self, forall_const, ne_eq, not_true_eq_false, not_false_eq_true, false_implies, implies_true, true_implies, true_or, or_true, or_false, false_or, eq_self, Int.reduceEq, Int.reduceLT, Int.reduceLE, Int.reduceNeg, Int.reduceToNat, Int.reduceAdd, Int.reduceSub, Int.reduceMul, Int.reduceNe, and_self, e1, e2, Int.toNat_natCast, hk]
  refine ⟨⟨by omega, by omega⟩, fun z => ?_, fun z => ⟨⟨by omega, by omega⟩, ?_⟩⟩
  · rw [if_neg (by omega)] at hon
    rw [← hon] at mid
    exact mid
  · rw [if_pos (by omega)] at hon
    rw [hon]
    exact mid
theorem ok_MO_sideBy {σ : jM} {Φ : jPh} {d N K F j f : Nat} {CL : Nat → List Int} {lw : Option (List Int)} {Y one other : Int} (hI : MI σ N CL) (hL : LWm σ N CL lw) (hR : RW K F (σ.1 63 0) (σ.1 66 0)) (hW : WW K Y (σ.1 69 j)) (hY : Y ≤ 1999) (hf : f < F) (h : ∀ τ, Fr SM σ τ → MI τ N CL → Φ (some (.inl (sidS lw (σ.1 66 0) (σ.1 69 j) f one other))) τ) : Ct (d + 35) M_MO_sideBy [rf 10 0, rf 69 j, .inl f, .inl one, .inl other] σ Φ := by
  refine i_MO_sideBy (Nat.le_add_right 5 2) ?_
  simp only [w_MO_sideBy_0, c_ic, c_lc, c_nul, c_il, c_ll, c_al, c_is, c_ls, c_as, c_inc, c_b2, c_b2n, c_b1, c_d2, c_d2n, c_dsh, c_i2l, c_l2i, c_lcm, c_dup, c_dup2, c_pop, c_j1, c_j2, c_jn, c_sw0, c_sw, c_gI, c_gL, c_gR, c_gS, c_pI, c_pZ, c_pL, c_pR, c_iald, c_ialg, c_iast, c_iasg, c_bald, c_bast, c_lald, c_last, c_aald, c_aals, c_aast, c_alen, c_bnd, c_str, c_bndl, c_bnln, c_sval, c_scod, c_sbal, c_sbln, c_fmt, c_stop, c_iret, c_zret, c_nret, c_aret, c_vret, c_lret, c_cpy, c_callV, c_callS, tkA, lget, lput, lkill, jpush, vsz, jcat, lins, lent, List.length_cons, List.length_nil, List.replicate, List.append_nil, List.cons_append, List.nil_append, reduceIte, Nat.reduceAdd, Nat.reduceSub, Nat.reduceEqDiff, true_and, and_true, Nat.reduceLeDiff, Nat.lt_irrefl, Nat.succ_ne_self, forall_const, ne_eq, not_true_eq_false, not_false_eq_true, false_implies, implies_true, true_implies, true_or, or_true, or_false, false_or, eq_self, Int.reduceEq, Int.reduceLT, Int.reduceLE, Int.reduceNeg, Int.reduceToNat, Int.reduceAdd, Int.reduceSub, Int.reduceMul, Int.reduceNe, and_self]
  refine ok_MO_forceBy (side := 0) hI hL hR hW hY hf (by decide) (fun τ t1 t2 => ?_)
  simp only [c_ic, c_lc, c_nul, c_il, c_ll, c_al, c_is, c_ls, c_as, c_inc, c_b2, c_b2n, c_b1, c_d2, c_d2n, c_dsh, c_i2l, c_l2i, c_lcm, c_dup, c_dup2, c_pop, c_j1, c_j2, c_jn, c_sw0, c_sw, c_gI, c_gL, c_gR, c_gS, c_pI, c_pZ, c_pL, c_pR, c_iald, c_ialg, c_iast, c_iasg, c_bald, c_bast, c_lald, c_last, c_aald, c_aals, c_aast, c_alen, c_bnd, c_str, c_bndl, c_bnln, c_sval, c_scod, c_sbal, c_sbln, c_fmt, c_stop, c_iret, c_zret, c_nret, c_aret, c_vret, c_lret, c_cpy, c_callV, c_callS, tkA, lget, lput, lkill, jpush, vsz, jcat, lins, lent, List.length_cons, List.length_nil, List.replicate, List.append_nil, List.cons_append, List.nil_append, reduceIte, Nat.reduceAdd, Nat.reduceSub, Nat.reduceEqDiff, true_and, and_true, Nat.reduceLeDiff, Nat.lt_irrefl, Nat.succ_ne_self, forall_const, ne_eq, not_true_eq_false, not_false_eq_true, false_implies, implies_true, true_implies, true_or, or_true, or_false, false_or, eq_self, Int.reduceEq, Int.reduceLT, Int.reduceLE, Int.reduceNeg, Int.reduceToNat, Int.reduceAdd, Int.reduceSub, Int.reduceMul, Int.reduceNe, and_self]
  have r69 := t1.row (k := 69) (j := j) (fun _ => nSM69)
  have r66 := t1.row (k := 66) (j := 0) (fun _ => nSM66)
  have r63 := t1.row (k := 63) (j := 0) (fun _ => nSM63)
  refine ok_MO_forceBy (side := 1) t2 (hL.fr t1 nSM34) (by rw [r66, r63]; exact hR) (by rw [r69]; exact hW) hY hf (by decide) (fun υ u1 u2 => ?_)
  have h := h υ (t1.tr u1) u2
  rw [r69, r66]
  unfold sidS sid2 at h
  simp only [w_MO_sideBy_32, w_MO_sideBy_43, w_MO_sideBy_44, c_ic, c_lc, c_nul, c_il, c_ll, c_al, c_is, c_ls, c_as, c_inc, c_b2, c_b2n, c_b1, c_d2, c_d2n, c_dsh, c_i2l, c_l2i, c_lcm, c_dup, c_dup2, c_pop, c_j1, c_j2, c_jn, c_sw0, c_sw, c_gI, c_gL, c_gR, c_gS, c_pI, c_pZ, c_pL, c_pR, c_iald, c_ialg, c_iast, c_iasg, c_bald, c_bast, c_lald, c_last, c_aald, c_aals, c_aast, c_alen, c_bnd, c_str, c_bndl, c_bnln, c_sval, c_scod, c_sbal, c_sbln, c_fmt, c_stop, c_iret, c_zret, c_nret, c_aret, c_vret, c_lret, c_cpy, c_callV, c_callS, tkA, lget, lput, lkill, jpush, vsz, jcat, lins, lent, List.length_cons, List.length_nil, List.replicate, List.append_nil, List.cons_append, List.nil_append, reduceIte, Nat.reduceAdd, Nat.reduceSub, Nat.reduceEqDiff, true_and, and_true, Nat.reduceLeDiff, Nat.lt_irrefl, Nat.succ_ne_self, forall_const, ne_eq, not_true_eq_false, not_false_eq_true, false_implies, implies_true, true_implies, true_or, or_true, or_false, false_or, eq_self, Int.reduceEq, Int.reduceLT, Int.reduceLE, Int.reduceNeg, Int.reduceToNat, Int.reduceAdd, Int.reduceSub, Int.reduceMul, Int.reduceNe, and_self]
  refine ⟨fun z => ⟨fun z2 => ?_, fun z2 => ?_⟩, fun z => ?_⟩
  · rwa [if_neg z, if_neg (by omega)] at h
  · rwa [if_neg z, if_pos (by omega)] at h
  · rwa [if_pos (Classical.not_not.mp z)] at h
theorem jand1 {x : Nat} (h : x < 2147483648) : jand x 1 = ((x % 2 : Nat) : Int) := by
  have := jand_mod (x := x) 1 h
  rw [show ((2 ^ 1 - 1 : Nat) : Int) = 1 by decide] at this
  rw [this]
theorem jbt {x : Int} {k : Nat} (h0 : 0 ≤ x) (h : x < 2147483648) (hk : k < 31) : jand (jshr x k) 1 = bt x k := by
  obtain ⟨n, rfl⟩ := Int.eq_ofNat_of_zero_le h0
  rw [jshr_nat hk (by omega), jand1 (Nat.lt_of_le_of_lt (Nat.div_le_self _ _) (by omega))]
  unfold bt
  push_cast
  rfl
theorem ok_MO_has {σ : jM} {Φ : jPh} {d k : Nat} {x : Int} (h0 : 0 ≤ x) (hx : x < 2147483648) (hk : k < 31) (h : Φ (some (.inl (bt x k))) σ) : Ct (d + 1) M_MO_has [.inl x, .inl k] σ Φ := by
  refine i_MO_has (Nat.le_refl 2) ?_
  simp only [w_MO_has_14, w_MO_has_13, w_MO_has_0, c_ic, c_lc, c_nul, c_il, c_ll, c_al, c_is, c_ls, c_as, c_inc, c_b2, c_b2n, c_b1, c_d2, c_d2n, c_dsh, c_i2l, c_l2i, c_lcm, c_dup, c_dup2, c_pop, c_j1, c_j2, c_jn, c_sw0, c_sw, c_gI, c_gL, c_gR, c_gS, c_pI, c_pZ, c_pL, c_pR, c_iald, c_ialg, c_iast, c_iasg, c_bald, c_bast, c_lald, c_last, c_aald, c_aals, c_aast, c_alen, c_bnd, c_str, c_bndl, c_bnln, c_sval, c_scod, c_sbal, c_sbln, c_fmt, c_stop, c_iret, c_zret, c_nret, c_aret, c_vret, c_lret, c_cpy, c_callV, c_callS, tkA, lget, lput, lkill, jpush, vsz, jcat, lins, lent, List.length_cons, List.length_nil, List.replicate, List.append_nil, List.cons_append, List.nil_append, reduceIte, Nat.reduceAdd, Nat.reduceSub, Nat.reduceEqDiff, true_and, and_true, Nat.reduceLeDiff, Nat.lt_irrefl, Nat.succ_ne_self, forall_const, ne_eq, not_true_eq_false, not_false_eq_true, false_implies, implies_true, true_implies, true_or, or_true, or_false, false_or, eq_self, Int.reduceEq, Int.reduceLT, Int.reduceLE, Int.reduceNeg, Int.reduceToNat, Int.reduceAdd, Int.reduceSub, Int.reduceMul, Int.reduceNe, and_self, jbt h0 hx hk]
  rcases bt_in x k with z | z <;> rw [z] at h ⊢
  · exact ⟨fun _ => h, fun q => absurd q (by decide)⟩
  · exact ⟨fun q => absurd rfl q, fun _ => h⟩
theorem ok_MO_isIn {σ : jM} {Φ : jPh} {d : Nat} {v a b : Int} (h : Φ (some (.inl (if a ≤ v ∧ v ≤ b then 1 else 0))) σ) : Ct (d + 1) M_MO_isIn [.inr (.inl v), .inr (.inl a), .inr (.inl b)] σ Φ := by
  refine i_MO_isIn (Nat.le_refl 6) ?_
  simp only [w_MO_isIn_18, w_MO_isIn_17, w_MO_isIn_0, c_ic, c_lc, c_nul, c_il, c_ll, c_al, c_is, c_ls, c_as, c_inc, c_b2, c_b2n, c_b1, c_d2, c_d2n, c_dsh, c_i2l, c_l2i, c_lcm, c_dup, c_dup2, c_pop, c_j1, c_j2, c_jn, c_sw0, c_sw, c_gI, c_gL, c_gR, c_gS, c_pI, c_pZ, c_pL, c_pR, c_iald, c_ialg, c_iast, c_iasg, c_bald, c_bast, c_lald, c_last, c_aald, c_aals, c_aast, c_alen, c_bnd, c_str, c_bndl, c_bnln, c_sval, c_scod, c_sbal, c_sbln, c_fmt, c_stop, c_iret, c_zret, c_nret, c_aret, c_vret, c_lret, c_cpy, c_callV, c_callS, tkA, lget, lput, lkill, jpush, vsz, jcat, lins, lent, List.length_cons, List.length_nil, List.replicate, List.append_nil, List.cons_append, List.nil_append, reduceIte, Nat.reduceAdd, Nat.reduceSub, Nat.reduceEqDiff, true_and, and_true, Nat.reduceLeDiff, Nat.lt_irrefl, Nat.succ_ne_self, forall_const, ne_eq, not_true_eq_false, not_false_eq_true, false_implies, implies_true, true_implies, true_or, or_true, or_false, false_or, eq_self, Int.reduceEq, Int.reduceLT, Int.reduceLE, Int.reduceNeg, Int.reduceToNat, Int.reduceAdd, Int.reduceSub, Int.reduceMul, Int.reduceNe, and_self, lcm3_lt, lcm3_gt]
  refine ⟨fun z => ?_, fun z => ⟨fun z2 => ?_, fun z2 => ?_⟩⟩
  · rwa [if_neg (by omega)] at h
  · rwa [if_neg (by omega)] at h
  · rwa [if_pos (by omega)] at h
theorem pow2_le {K : Nat} (h : K ≤ 4) : (2 : Int) ^ K ≤ 16 := by
  rcases (show K = 0 ∨ K = 1 ∨ K = 2 ∨ K = 3 ∨ K = 4 by omega) with rfl | rfl | rfl | rfl | rfl <;> decide
theorem ok_MO_sideNow {σ : jM} {Φ : jPh} {d N K F j f : Nat} {CL : Nat → List Int} {lw : Option (List Int)} {Y : Int} (hI : MI σ N CL) (hL : LWm σ N CL lw) (hR : RW K F (σ.1 63 0) (σ.1 66 0)) (hW : WW K Y (σ.1 69 j)) (hY : Y ≤ 1999) (hf : f < F) (h : ∀ τ, Fr SM σ τ → MI τ N CL → Φ (some (.inl (sidN lw (σ.1 66 0) (σ.1 69 j) f))) τ) : Ct (d + 36) M_MO_sideNow [rf 10 0, rf 69 j, .inl f] σ Φ := by
  refine i_MO_sideNow (Nat.le_refl 3) ?_
  have hR' := hR
  obtain ⟨⟨rK, rK4⟩, ⟨rF, rF8⟩, -, -, rG⟩ := hR'
  obtain ⟨g0, g1, -, g2, -⟩ := rG f hf
  have w16 := hW.2.2.1
  have p16 := pow2_le rK4
  have e0 : wr (4 * (f : Int)) = ((4 * f : Nat) : Int) := by simp (disch := omega) only [wr_id]; omega
  have e1 : wr (((4 * f : Nat) : Int) + 1) = ((4 * f + 1 : Nat) : Int) := by simp (disch := omega) only [wr_id]; omega
  obtain ⟨k0, hk0⟩ := Int.eq_ofNat_of_zero_le g0.1
  obtain ⟨k1, hk1⟩ := Int.eq_ofNat_of_zero_le g1.1
  simp only [w_MO_sideNow_0, c_ic, c_lc, c_nul, c_il, c_ll, c_al, c_is, c_ls, c_as, c_inc, c_b2, c_b2n, c_b1, c_d2, c_d2n, c_dsh, c_i2l, c_l2i, c_lcm, c_dup, c_dup2, c_pop, c_j1, c_j2, c_jn, c_sw0, c_sw, c_gI, c_gL, c_gR, c_gS, c_pI, c_pZ, c_pL, c_pR, c_iald, c_ialg, c_iast, c_iasg, c_bald, c_bast, c_lald, c_last, c_aald, c_aals, c_aast, c_alen, c_bnd, c_str, c_bndl, c_bnln, c_sval, c_scod, c_sbal, c_sbln, c_fmt, c_stop, c_iret, c_zret, c_nret, c_aret, c_vret, c_lret, c_cpy, c_callV, c_callS, tkA, lget, lput, lkill, jpush, vsz, jcat, lins, lent, List.length_cons, List.length_nil, List.replicate, List.append_nil, List.cons_append, List.nil_append, reduceIte, Nat.reduceAdd, Nat.reduceSub, Nat.reduceEqDiff, true_and, and_true, Nat.reduceLeDiff, Nat.lt_irrefl, Nat.succ_ne_self, forall_const, ne_eq, not_true_eq_false, not_false_eq_true, false_implies, implies_true, true_implies, true_or, or_true, or_false, false_or, eq_self, Int.reduceEq, Int.reduceLT, Int.reduceLE, Int.reduceNeg, Int.reduceToNat, Int.reduceAdd, Int.reduceSub, Int.reduceMul, Int.reduceNe, and_self, jln69, e0, e1, Int.toNat_natCast]
  refine ⟨by decide, by decide, ⟨by omega, by omega⟩, ?_⟩
  rw [hk0]
  refine ok_MO_has w16.1 (by omega) (by omega) ?_
  simp only [c_ic, c_lc, c_nul, c_il, c_ll, c_al, c_is, c_ls, c_as, c_inc, c_b2, c_b2n, c_b1, c_d2, c_d2n, c_dsh, c_i2l, c_l2i, c_lcm, c_dup, c_dup2, c_pop, c_j1, c_j2, c_jn, c_sw0, c_sw, c_gI, c_gL, c_gR, c_gS, c_pI, c_pZ, c_pL, c_pR, c_iald, c_ialg, c_iast, c_iasg, c_bald, c_bast, c_lald, c_last, c_aald, c_aals, c_aast, c_alen, c_bnd, c_str, c_bndl, c_bnln, c_sval, c_scod, c_sbal, c_sbln, c_fmt, c_stop, c_iret, c_zret, c_nret, c_aret, c_vret, c_lret, c_cpy, c_callV, c_callS, tkA, lget, lput, lkill, jpush, vsz, jcat, lins, lent, List.length_cons, List.length_nil, List.replicate, List.append_nil, List.cons_append, List.nil_append, reduceIte, Nat.reduceAdd, Nat.reduceSub, Nat.reduceEqDiff, true_and, and_true, Nat.reduceLeDiff, Nat.lt_irrefl, Nat.succ_ne_self, forall_const, ne_eq, not_true_eq_false, not_false_eq_true, false_implies, implies_true, true_implies, true_or, or_true, or_false, false_or, eq_self, Int.reduceEq, Int.reduceLT, Int.reduceLE, Int.reduceNeg, Int.reduceToNat, Int.reduceAdd, Int.reduceSub, Int.reduceMul, Int.reduceNe, and_self, jln69, e0, e1, Int.toNat_natCast]
  refine ⟨by decide, by decide, ⟨by omega, by omega⟩, ?_⟩
  rw [hk1]
  refine ok_MO_has w16.1 (by omega) (by omega) ?_
  simp only [c_ic, c_lc, c_nul, c_il, c_ll, c_al, c_is, c_ls, c_as, c_inc, c_b2, c_b2n, c_b1, c_d2, c_d2n, c_dsh, c_i2l, c_l2i, c_lcm, c_dup, c_dup2, c_pop, c_j1, c_j2, c_jn, c_sw0, c_sw, c_gI, c_gL, c_gR, c_gS, c_pI, c_pZ, c_pL, c_pR, c_iald, c_ialg, c_iast, c_iasg, c_bald, c_bast, c_lald, c_last, c_aald, c_aals, c_aast, c_alen, c_bnd, c_str, c_bndl, c_bnln, c_sval, c_scod, c_sbal, c_sbln, c_fmt, c_stop, c_iret, c_zret, c_nret, c_aret, c_vret, c_lret, c_cpy, c_callV, c_callS, tkA, lget, lput, lkill, jpush, vsz, jcat, lins, lent, List.length_cons, List.length_nil, List.replicate, List.append_nil, List.cons_append, List.nil_append, reduceIte, Nat.reduceAdd, Nat.reduceSub, Nat.reduceEqDiff, true_and, and_true, Nat.reduceLeDiff, Nat.lt_irrefl, Nat.succ_ne_self, forall_const, ne_eq, not_true_eq_false, not_false_eq_true, false_implies, implies_true, true_implies, true_or, or_true, or_false, false_or, eq_self, Int.reduceEq, Int.reduceLT, Int.reduceLE, Int.reduceNeg, Int.reduceToNat, Int.reduceAdd, Int.reduceSub, Int.reduceMul, Int.reduceNe, and_self]
  refine ok_MO_sideBy hI hL hR hW hY hf (fun τ t1 t2 => ?_)
  have h := h τ t1 t2
  unfold sidN at h
  rw [hk0, hk1] at h
  simp only [c_ic, c_lc, c_nul, c_il, c_ll, c_al, c_is, c_ls, c_as, c_inc, c_b2, c_b2n, c_b1, c_d2, c_d2n, c_dsh, c_i2l, c_l2i, c_lcm, c_dup, c_dup2, c_pop, c_j1, c_j2, c_jn, c_sw0, c_sw, c_gI, c_gL, c_gR, c_gS, c_pI, c_pZ, c_pL, c_pR, c_iald, c_ialg, c_iast, c_iasg, c_bald, c_bast, c_lald, c_last, c_aald, c_aals, c_aast, c_alen, c_bnd, c_str, c_bndl, c_bnln, c_sval, c_scod, c_sbal, c_sbln, c_fmt, c_stop, c_iret, c_zret, c_nret, c_aret, c_vret, c_lret, c_cpy, c_callV, c_callS, tkA, lget, lput, lkill, jpush, vsz, jcat, lins, lent, List.length_cons, List.length_nil, List.replicate, List.append_nil, List.cons_append, List.nil_append, reduceIte, Nat.reduceAdd, Nat.reduceSub, Nat.reduceEqDiff, true_and, and_true, Nat.reduceLeDiff, Nat.lt_irrefl, Nat.succ_ne_self, forall_const, ne_eq, not_true_eq_false, not_false_eq_true, false_implies, implies_true, true_implies, true_or, or_true, or_false, false_or, eq_self, Int.reduceEq, Int.reduceLT, Int.reduceLE, Int.reduceNeg, Int.reduceToNat, Int.reduceAdd, Int.reduceSub, Int.reduceMul, Int.reduceNe, and_self]
  exact h
