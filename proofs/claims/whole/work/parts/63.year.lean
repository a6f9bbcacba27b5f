/-! ===== 63 the model: a year ===== -/
def yBt (G : Nat → Int) (f : Nat) (s : Int) : Int := if s = -1 then -1 else if s = 0 then G (4 * f + 1) else G (4 * f)
def yWon (G : Nat → Int) (f : Nat) (s : Int) : Int := if s = 0 then G (4 * f) else G (4 * f + 1)
def yTl (G W : Nat → Int) (f : Nat) (s : Int) : Int := if s = -1 then -1 else G (4 * f + 3) + W (4 * (yBt G f s).toNat + 1)
def yV3 (ru0 : Int) (W : Nat → Int) (won b : Nat) : Nat → Int := up (up (up W (4 * won + 3) (min 999 (W (4 * won + 3) + 1))) (4 * b) (max 0 (W (4 * b) - ru0))) (4 * b + 2) (min 9 (W (4 * b + 2) + 1))
def yV (ru0 : Int) (G W : Nat → Int) (f : Nat) (s : Int) : Nat → Int := if s = -1 then W else up (wriS (yV3 ru0 W (yWon G f s).toNat (yBt G f s).toNat) f (yBt G f s) (yTl G W f s)) 17 (min 999 (W 17 + 1))
def shfL (W : Nat → Int) : Nat → Int := fun p => if p = 110 then 59 else if 111 ≤ p ∧ p < 288 then W (p + 3) else W p
def logS (W : Nat → Int) (f b t : Int) : Nat → Int :=
  let V := if W 110 = 60 then shfL W else W
  let r := 111 + 3 * (V 110).toNat
  up (up (up (up V r f) (r + 1) b) (r + 2) t) 110 (V 110 + 1)
def yW (ru0 : Int) (G W : Nat → Int) (f : Nat) (s : Int) : Nat → Int := logS (up (yV ru0 G W f s) 18 (W 18 + 1)) f (yBt G f s) (yTl G W f s)
def fld (W : Nat → Int) (F : Nat) : Nat := (W 18).toNat % F
theorem wriS_lo {W : Nat → Int} {f who tells : Int} {p : Nat} (h : p < 19 ∨ (110 ≤ p ∧ 0 ≤ W 19 ∧ W 19 ≤ 30)) : wriS W f who tells p = W p := by
  unfold wriS
  by_cases z : W 19 = 30
  · simp only [if_pos z]
    have e : burnS W 0 19 = W 19 - 1 := by simp only [burnS, if_true]
    have e2 : burnS W 0 p = W p := by
      unfold burnS
      rw [if_neg (by omega), if_neg (by omega), if_neg (by omega)]
    rw [e, up_ne (by omega), up_ne (by omega), up_ne (by omega), up_ne (by omega), e2]
  · simp only [if_neg z]
    rw [up_ne (by omega), up_ne (by omega), up_ne (by omega), up_ne (by omega)]
theorem MI.sAm {σ : jM} {N j : Nat} {CL : Nat → List Int} {W : Nat → Int} (h : MI σ N CL) : MI (sA σ 69 j W) N CL := by
  have hF : Fr (fun k _ _ => k = 69) σ (sA σ 69 j W) := Fr.rf.sA (fun _ => rfl)
  refine ⟨h.1.fr hF (fun o q => absurd q (by decide)) (fun o q => absurd q (by decide)), fun i hi => ?_, fun k hk => ?_⟩
  · rw [hF.l (k := 70) (by decide), hF.i (k := 71) (by decide)]; exact h.2.1 i hi
  · show -1000000 ≤ (sA σ 69 j W).1 62 0 _ ∧ (sA σ 69 j W).1 62 0 _ ≤ 1000000
    rw [hF.i (k := 62) (by decide)]; exact h.2.2 k hk
theorem RW.at {K F : Nat} {ru G : Nat → Int} (h : RW K F ru G) {f : Nat} (hf : f < F) : (0 ≤ G (4 * f) ∧ G (4 * f) < K) ∧ (0 ≤ G (4 * f + 1) ∧ G (4 * f + 1) < K) ∧ G (4 * f) ≠ G (4 * f + 1) ∧ (0 ≤ G (4 * f + 2) ∧ G (4 * f + 2) ≤ 9) ∧ (0 ≤ G (4 * f + 3) ∧ G (4 * f + 3) ≤ 20) := h.2.2.2.2 f hf
theorem ok_MO_goYear {σ : jM} {Φ : jPh} {d N K F j : Nat} {CL : Nat → List Int} {lw : Option (List Int)} {Y : Int} (hI : MI σ N CL) (hL : LWm σ N CL lw) (hR : RW K F (σ.1 63 0) (σ.1 66 0)) (hFd : σ.1 10 0 27 = F) (hW : WW K Y (σ.1 69 j)) (hY : Y ≤ 1999) (h : ∀ τ, Fr SM σ τ → MI τ N CL → Φ (some (.inl (yBt (σ.1 66 0) (fld (σ.1 69 j) F) (sidN lw (σ.1 66 0) (σ.1 69 j) (fld (σ.1 69 j) F))))) (sA τ 69 j (yW (σ.1 63 0 0) (σ.1 66 0) (σ.1 69 j) (fld (σ.1 69 j) F) (sidN lw (σ.1 66 0) (σ.1 69 j) (fld (σ.1 69 j) F))))) : Ct (d + 37) M_MO_goYear [rf 10 0, rf 69 j] σ Φ := by
  refine i_MO_goYear (Nat.le_add_right 2 5) (fun At h201 => ?_)
  have hR' := hR
  obtain ⟨⟨rK, rK4⟩, ⟨rF, rF8⟩, ru0, -, -⟩ := hR'
  have hW' := hW
  obtain ⟨wk, ww, -, w17, w18, w19, -, w110, -⟩ := hW'
  obtain ⟨y, hy⟩ := Int.eq_ofNat_of_zero_le w18.1
  have hf : fld (σ.1 69 j) F < F := Nat.mod_lt _ (by omega)
  have ef : jrem (σ.1 69 j 18) F = fld (σ.1 69 j) F := by
    rw [jrem_eq (by omega) (by omega) (by omega) (by omega), hy]
    unfold fld
    rw [hy, Int.toNat_natCast]
    omega
  obtain ⟨g0, g1, gne, g2, g3⟩ := hR.at hf
  simp only [w_MO_goYear_0, c_ic, c_lc, c_nul, c_il, c_ll, c_al, c_is, c_ls, c_as, c_inc, c_b2, c_b2n, c_b1, c_d2, c_d2n, c_dsh, c_i2l, c_l2i, c_lcm, c_dup, c_dup2, c_pop, c_j1, c_j2, c_jn, c_sw0, c_sw, c_gI, c_gL, c_gR, c_gS, c_pI, c_pZ, c_pL, c_pR, c_iald, c_ialg, c_iast, c_iasg, c_bald, c_bast, c_lald, c_last, c_aald, c_aals, c_aast, c_alen, c_bnd, c_str, c_bndl, c_bnln, c_sval, c_scod, c_sbal, c_sbln, c_fmt, c_stop, c_iret, c_zret, c_nret, c_aret, c_vret, c_lret, c_cpy, c_callV, c_callS, tkA, lget, lput, lkill, jpush, vsz, jcat, lins, lent, List.length_cons, List.length_nil, List.replicate, List.append_nil, List.cons_append, List.nil_append, reduceIte, Nat.reduceAdd, Nat.reduceSub, Nat.reduceEqDiff, true_and, and_true, Nat.reduceLeDiff, Nat.lt_irrefl, Nat.succ_ne_self, forall_const, ne_eq, not_true_eq_false, not_false_eq_true, false_implies, implies_true, true_implies, true_or, or_true, or_false, false_or, eq_self, Int.reduceEq, Int.reduceLT, Int.reduceLE, Int.reduceNeg, Int.reduceToNat, Int.reduceAdd, Int.reduceSub, Int.reduceMul, Int.reduceNe, and_self, jln69, hFd, ef]
  refine ⟨by decide, by decide, by omega, ?_⟩
  refine ok_MO_sideNow hI hL hR hW hY hf (fun τ t1 t2 => ?_)
  have h := h τ t1 t2
  have r69 := t1.row (k := 69) (j := j) (fun _ => nSM69)
  have r66 := t1.row (k := 66) (j := 0) (fun _ => nSM66)
  have r63 := t1.row (k := 63) (j := 0) (fun _ => nSM63)
  have eτ : τ = sA τ 69 j (σ.1 69 j) := by rw [← r69, sA_self]
  have hs3 : sidN lw (σ.1 66 0) (σ.1 69 j) (fld (σ.1 69 j) F) = -1 ∨ sidN lw (σ.1 66 0) (σ.1 69 j) (fld (σ.1 69 j) F) = 0 ∨ sidN lw (σ.1 66 0) (σ.1 69 j) (fld (σ.1 69 j) F) = 1 := sid2_in _ _
  rw [eτ]
  revert hs3 h
  generalize sidN lw (σ.1 66 0) (σ.1 69 j) (fld (σ.1 69 j) F) = s
  generalize fld (σ.1 69 j) F = f at *
  intro h hs3
  have f8 : f < 8 := by omega
  -- the log
  have fin : ∀ (V : Nat → Int) (b t : Int) (x6 : Option jV), 0 ≤ V 110 ∧ V 110 ≤ 59 → Φ (some (.inl b)) (sA τ 69 j (up (up (up (up V (111 + 3 * (V 110).toNat) f) (111 + 3 * (V 110).toNat + 1) b) (111 + 3 * (V 110).toNat + 2) t) 110 (V 110 + 1))) → w_MO_goYear_239 At Φ (d + 36) [some (rf 10 0), some (rf 69 j), some (.inl f), some (.inl s), some (.inl b), some (.inl t), x6] [] (sA τ 69 j V) := by
    intro V b t x6 hV hq
    obtain ⟨n, hn⟩ := Int.eq_ofNat_of_zero_le hV.1
    rw [hn] at hq hV
    have e1 : wr (111 + wr (3 * (n : Int))) = ((111 + 3 * n : Nat) : Int) := by simp (disch := omega) only [wr_id]; omega
    have e2 : wr (((111 + 3 * n : Nat) : Int) + 1) = ((111 + 3 * n + 1 : Nat) : Int) := by simp (disch := omega) only [wr_id]; omega
    have e3 : wr (((111 + 3 * n : Nat) : Int) + 2) = ((111 + 3 * n + 2 : Nat) : Int) := by simp (disch := omega) only [wr_id]; omega
    simp only [w_MO_goYear_239, c_ic, c_lc, c_nul, c_il, c_ll, c_al, c_is, c_ls, c_as, c_inc, c_b2, c_b2n, c_b1, c_d2, c_d2n, c_dsh, c_i2l, c_l2i, c_lcm, c_dup, c_dup2, c_pop, c_j1, c_j2, c_jn, c_sw0, c_sw, c_gI, c_gL, c_gR, c_gS, c_pI, c_pZ, c_pL, c_pR, c_iald, c_ialg, c_iast, c_iasg, c_bald, c_bast, c_lald, c_last, c_aald, c_aals, c_aast, c_alen, c_bnd, c_str, c_bndl, c_bnln, c_sval, c_scod, c_sbal, c_sbln, c_fmt, c_stop, c_iret, c_zret, c_nret, c_aret, c_vret, c_lret, c_cpy, c_callV, c_callS, tkA, lget, lput, lkill, jpush, vsz, jcat, lins, lent, List.length_cons, List.length_nil, List.replicate, List.append_nil, List.cons_append, List.nil_append, reduceIte, Nat.reduceAdd, Nat.reduceSub, Nat.reduceEqDiff, true_and, and_true, Nat.reduceLeDiff, Nat.lt_irrefl, Nat.succ_ne_self, forall_const, ne_eq, not_true_eq_false, not_false_eq_true, false_implies, implies_true, true_implies, true_or, or_true, or_false, false_or, eq_self, Int.reduceEq, Int.reduceLT, Int.reduceLE, Int.reduceNeg, Int.reduceToNat, Int.reduceAdd, Int.reduceSub, Int.reduceMul, Int.reduceNe, and_self, jln69, sA_r, Int.reduceToNat, sA_sI, hn, e1, e2, e3, Int.toNat_natCast]
    rw [up_ne (by omega), up_ne (by omega), up_ne (by omega), hn, wr_id (x := (n : Int) + 1) (by omega) (by omega)]
    exact ⟨by decide, by decide, by decide, ⟨by omega, by omega⟩, by decide, ⟨by omega, by omega⟩, by decide, ⟨by omega, by omega⟩, by decide, by decide, by decide, by decide, hq⟩
  have loop : ∀ (V : Nat → Int) (b t : Int), Φ (some (.inl b)) (sA τ 69 j (up (up (up (up (shfL V) 288 f) 289 b) 290 t) 110 60)) → V 110 = 60 → ∀ (m q : Nat), q + m = 178 → 1 ≤ q → At 201 [some (rf 10 0), some (rf 69 j), some (.inl f), some (.inl s), some (.inl b), some (.inl t), some (.inl q)] [] (sA τ 69 j (fun p => if 111 ≤ p ∧ p < 110 + q then V (p + 3) else V p)) := by
    intro V b t hq hV m
    induction m with
    | zero =>
      intro q hm _
      refine h201 _ _ _ ?_
      simp only [w_MO_goYear_201, w_MO_goYear_231, c_ic, c_lc, c_nul, c_il, c_ll, c_al, c_is, c_ls, c_as, c_inc, c_b2, c_b2n, c_b1, c_d2, c_d2n, c_dsh, c_i2l, c_l2i, c_lcm, c_dup, c_dup2, c_pop, c_j1, c_j2, c_jn, c_sw0, c_sw, c_gI, c_gL, c_gR, c_gS, c_pI, c_pZ, c_pL, c_pR, c_iald, c_ialg, c_iast, c_iasg, c_bald, c_bast, c_lald, c_last, c_aald, c_aals, c_aast, c_alen, c_bnd, c_str, c_bndl, c_bnln, c_sval, c_scod, c_sbal, c_sbln, c_fmt, c_stop, c_iret, c_zret, c_nret, c_aret, c_vret, c_lret, c_cpy, c_callV, c_callS, tkA, lget, lput, lkill, jpush, vsz, jcat, lins, lent, List.length_cons, List.length_nil, List.replicate, List.append_nil, List.cons_append, List.nil_append, reduceIte, Nat.reduceAdd, Nat.reduceSub, Nat.reduceEqDiff, true_and, and_true, Nat.reduceLeDiff, Nat.lt_irrefl, Nat.succ_ne_self, forall_const, ne_eq, not_true_eq_false, not_false_eq_true, false_implies, implies_true, true_implies, true_or, or_true, or_false, false_or, eq_self, Int.reduceEq, Int.reduceLT, Int.reduceLE, Int.reduceNeg, Int.reduceToNat, Int.reduceAdd, Int.reduceSub, Int.reduceMul, Int.reduceNe, and_self, jln69, sA_r, sA_sI, Int.reduceToNat]
      refine ⟨fun _ => ⟨by decide, by decide, by decide, by decide, ?_⟩, fun z => absurd z (by omega)⟩
      have e1 : wr ((if False ∧ 110 < 110 + q then V 113 else V 110) - 1) = 59 := by rw [if_neg (fun z => z.1), hV]; decide
      rw [e1]
      refine fin _ b t _ (by rw [up_eq]; decide) ?_
      rw [up_eq]
      refine Eq.mp ?_ hq
      congr 2
      funext p
      simp only [up, shfL, Int.reduceToNat, Nat.reduceMul, Nat.reduceAdd, Int.reduceAdd]
      repeat' split
      all_goals first | rfl | omega
    | succ m ih =>
      intro q hm q1
      refine h201 _ _ _ ?_
      have e1 : wr (110 + (q : Int)) = ((110 + q : Nat) : Int) := by simp (disch := omega) only [wr_id]; omega
      have e2 : wr (((110 + q : Nat) : Int) + 3) = ((110 + q + 3 : Nat) : Int) := by simp (disch := omega) only [wr_id]; omega
      simp only [w_MO_goYear_201, c_ic, c_lc, c_nul, c_il, c_ll, c_al, c_is, c_ls, c_as, c_inc, c_b2, c_b2n, c_b1, c_d2, c_d2n, c_dsh, c_i2l, c_l2i, c_lcm, c_dup, c_dup2, c_pop, c_j1, c_j2, c_jn, c_sw0, c_sw, c_gI, c_gL, c_gR, c_gS, c_pI, c_pZ, c_pL, c_pR, c_iald, c_ialg, c_iast, c_iasg, c_bald, c_bast, c_lald, c_last, c_aald, c_aals, c_aast, c_alen, c_bnd, c_str, c_bndl, c_bnln, c_sval, c_scod, c_sbal, c_sbln, c_fmt, c_stop, c_iret, c_zret, c_nret, c_aret, c_vret, c_lret, c_cpy, c_callV, c_callS, tkA, lget, lput, lkill, jpush, vsz, jcat, lins, lent, List.length_cons, List.length_nil, List.replicate, List.append_nil, List.cons_append, List.nil_append, reduceIte, Nat.reduceAdd, Nat.reduceSub, Nat.reduceEqDiff, true_and, and_true, Nat.reduceLeDiff, Nat.lt_irrefl, Nat.succ_ne_self, forall_const, ne_eq, not_true_eq_false, not_false_eq_true, false_implies, implies_true, true_implies, true_or, or_true, or_false, false_or, eq_self, Int.reduceEq, Int.reduceLT, Int.reduceLE, Int.reduceNeg, Int.reduceToNat, Int.reduceAdd, Int.reduceSub, Int.reduceMul, Int.reduceNe, and_self, jln69, sA_r, sA_sI, e1, e2, Int.toNat_natCast]
      refine ⟨fun z => absurd z (by omega), fun _ => ⟨by decide, ⟨by omega, by omega⟩, by decide, ⟨by omega, by omega⟩, ?_⟩⟩
      rw [inc_nat (by omega)]
      refine Eq.mp ?_ (ih (q + 1) (by omega) (by omega))
      congr 2
      funext p
      simp only [up]
      repeat' split
      all_goals first | rfl | omega | (congr 1; omega)
  have tail : ∀ (V : Nat → Int) (b t : Int) (x6 : Option jV), 0 ≤ V 110 ∧ V 110 ≤ 60 → 0 ≤ V 18 ∧ V 18 ≤ 1999 → Φ (some (.inl b)) (sA τ 69 j (logS (up V 18 (V 18 + 1)) f b t)) → w_MO_goYear_181 At Φ (d + 36) [some (rf 10 0), some (rf 69 j), some (.inl f), some (.inl s), some (.inl b), some (.inl t), x6] [] (sA τ 69 j V) := by
    intro V b t x6 hV hV2 hq
    simp only [w_MO_goYear_181, c_ic, c_lc, c_nul, c_il, c_ll, c_al, c_is, c_ls, c_as, c_inc, c_b2, c_b2n, c_b1, c_d2, c_d2n, c_dsh, c_i2l, c_l2i, c_lcm, c_dup, c_dup2, c_pop, c_j1, c_j2, c_jn, c_sw0, c_sw, c_gI, c_gL, c_gR, c_gS, c_pI, c_pZ, c_pL, c_pR, c_iald, c_ialg, c_iast, c_iasg, c_bald, c_bast, c_lald, c_last, c_aald, c_aals, c_aast, c_alen, c_bnd, c_str, c_bndl, c_bnln, c_sval, c_scod, c_sbal, c_sbln, c_fmt, c_stop, c_iret, c_zret, c_nret, c_aret, c_vret, c_lret, c_cpy, c_callV, c_callS, tkA, lget, lput, lkill, jpush, vsz, jcat, lins, lent, List.length_cons, List.length_nil, List.replicate, List.append_nil, List.cons_append, List.nil_append, reduceIte, Nat.reduceAdd, Nat.reduceSub, Nat.reduceEqDiff, true_and, and_true, Nat.reduceLeDiff, Nat.lt_irrefl, Nat.succ_ne_self, forall_const, ne_eq, not_true_eq_false, not_false_eq_true, false_implies, implies_true, true_implies, true_or, or_true, or_false, false_or, eq_self, Int.reduceEq, Int.reduceLT, Int.reduceLE, Int.reduceNeg, Int.reduceToNat, Int.reduceAdd, Int.reduceSub, Int.reduceMul, Int.reduceNe, and_self, jln69, sA_r, sA_sI, Int.reduceToNat]
    rw [wr_id (x := V 18 + 1) (by omega) (by omega), up_ne (by decide)]
    unfold logS at hq
    have u110 : up V 18 (V 18 + 1) 110 = V 110 := up_ne (by decide)
    refine ⟨by decide, by decide, by decide, by decide, by decide, by decide, fun z => ?_, fun z => ?_⟩
    · rw [u110, if_neg z] at hq
      refine fin _ b t x6 (by rw [u110]; omega) ?_
      exact hq
    · have z := Classical.not_not.mp z
      rw [u110, if_pos z] at hq
      have := loop (up V 18 (V 18 + 1)) b t hq (by rw [u110]; exact z) 177 1 rfl (Nat.le_refl 1)
      refine Eq.mp ?_ this
      congr 2
      funext p
      split
      · omega
      · rfl
  unfold yW yV at h
  simp only [w_MO_goYear_26, c_ic, c_lc, c_nul, c_il, c_ll, c_al, c_is, c_ls, c_as, c_inc, c_b2, c_b2n, c_b1, c_d2, c_d2n, c_dsh, c_i2l, c_l2i, c_lcm, c_dup, c_dup2, c_pop, c_j1, c_j2, c_jn, c_sw0, c_sw, c_gI, c_gL, c_gR, c_gS, c_pI, c_pZ, c_pL, c_pR, c_iald, c_ialg, c_iast, c_iasg, c_bald, c_bast, c_lald, c_last, c_aald, c_aals, c_aast, c_alen, c_bnd, c_str, c_bndl, c_bnln, c_sval, c_scod, c_sbal, c_sbln, c_fmt, c_stop, c_iret, c_zret, c_nret, c_aret, c_vret, c_lret, c_cpy, c_callV, c_callS, tkA, lget, lput, lkill, jpush, vsz, jcat, lins, lent, List.length_cons, List.length_nil, List.replicate, List.append_nil, List.cons_append, List.nil_append, reduceIte, Nat.reduceAdd, Nat.reduceSub, Nat.reduceEqDiff, true_and, and_true, Nat.reduceLeDiff, Nat.lt_irrefl, Nat.succ_ne_self, forall_const, ne_eq, not_true_eq_false, not_false_eq_true, false_implies, implies_true, true_implies, true_or, or_true, or_false, false_or, eq_self, Int.reduceEq, Int.reduceLT, Int.reduceLE, Int.reduceNeg, Int.reduceToNat, Int.reduceAdd, Int.reduceSub, Int.reduceMul, Int.reduceNe, and_self]
  by_cases s1 : s = -1
  · subst s1
    rw [if_pos rfl] at h
    refine ⟨fun z => absurd rfl z, fun _ => ?_⟩
    simp only [w_MO_goYear_38, c_ic, c_lc, c_nul, c_il, c_ll, c_al, c_is, c_ls, c_as, c_inc, c_b2, c_b2n, c_b1, c_d2, c_d2n, c_dsh, c_i2l, c_l2i, c_lcm, c_dup, c_dup2, c_pop, c_j1, c_j2, c_jn, c_sw0, c_sw, c_gI, c_gL, c_gR, c_gS, c_pI, c_pZ, c_pL, c_pR, c_iald, c_ialg, c_iast, c_iasg, c_bald, c_bast, c_lald, c_last, c_aald, c_aals, c_aast, c_alen, c_bnd, c_str, c_bndl, c_bnln, c_sval, c_scod, c_sbal, c_sbln, c_fmt, c_stop, c_iret, c_zret, c_nret, c_aret, c_vret, c_lret, c_cpy, c_callV, c_callS, tkA, lget, lput, lkill, jpush, vsz, jcat, lins, lent, List.length_cons, List.length_nil, List.replicate, List.append_nil, List.cons_append, List.nil_append, reduceIte, Nat.reduceAdd, Nat.reduceSub, Nat.reduceEqDiff, true_and, and_true, Nat.reduceLeDiff, Nat.lt_irrefl, Nat.succ_ne_self, forall_const, ne_eq, not_true_eq_false, not_false_eq_true, false_implies, implies_true, true_implies, true_or, or_true, or_false, false_or, eq_self, Int.reduceEq, Int.reduceLT, Int.reduceLE, Int.reduceNeg, Int.reduceToNat, Int.reduceAdd, Int.reduceSub, Int.reduceMul, Int.reduceNe, and_self]
    exact tail _ _ _ _ w110 (by omega) h
  · rw [if_neg s1] at h
    refine ⟨fun _ => ?_, fun z => absurd s1 z⟩
    obtain ⟨b, hb⟩ : ∃ b : Nat, yBt (σ.1 66 0) f s = b := by
      unfold yBt
      rw [if_neg s1]
      split
      · exact ⟨_, (Int.toNat_of_nonneg g1.1).symm⟩
      · exact ⟨_, (Int.toNat_of_nonneg g0.1).symm⟩
    obtain ⟨won, hwon⟩ : ∃ b : Nat, yWon (σ.1 66 0) f s = b := by
      unfold yWon
      split
      · exact ⟨_, (Int.toNat_of_nonneg g0.1).symm⟩
      · exact ⟨_, (Int.toNat_of_nonneg g1.1).symm⟩
    have hbK : b < K ∧ won < K := by
      unfold yBt at hb
      unfold yWon at hwon
      rw [if_neg s1] at hb
      split at hb <;> split at hwon <;> omega
    have e0 : wr (4 * (f : Int)) = ((4 * f : Nat) : Int) := by simp (disch := omega) only [wr_id]; omega
    have eb : ∃ i : Nat, wr (wr (((4 * f : Nat) : Int) + 1) - s) = i ∧ i < 32 ∧ τ.1 66 0 i = b := by
      rw [r66, ← hb]
      unfold yBt
      rw [if_neg s1]
      rcases hs3 with z | z | z
      · exact absurd z s1
      · exact ⟨4 * f + 1, by simp (disch := omega) only [wr_id]; omega, by omega, by rw [if_pos z]⟩
      · exact ⟨4 * f, by simp (disch := omega) only [wr_id]; omega, by omega, by rw [if_neg (by omega)]⟩
    have ew : ∃ i : Nat, wr (((4 * f : Nat) : Int) + s) = i ∧ i < 32 ∧ τ.1 66 0 i = won := by
      rw [r66, ← hwon]
      unfold yWon
      rcases hs3 with z | z | z
      · exact absurd z s1
      · exact ⟨4 * f, by simp (disch := omega) only [wr_id]; omega, by omega, by rw [if_pos z]⟩
      · exact ⟨4 * f + 1, by simp (disch := omega) only [wr_id]; omega, by omega, by rw [if_neg (by omega)]⟩
    obtain ⟨ib, ib1, ib2, ib3⟩ := eb
    obtain ⟨iw, iw1, iw2, iw3⟩ := ew
    have s66 : ∀ V, (sA τ 69 j V).1 66 0 = τ.1 66 0 := fun V => sA_ne (by omega)
    have s63 : ∀ V, (sA τ 69 j V).1 63 0 = τ.1 63 0 := fun V => sA_ne (by omega)
    have k3 : wr (wr (4 * (won : Int)) + 3) = ((4 * won + 3 : Nat) : Int) := by simp (disch := omega) only [wr_id]; omega
    have b0 : wr (wr (4 * (b : Int)) + 0) = ((4 * b : Nat) : Int) := by simp (disch := omega) only [wr_id]; omega
    have b1 : wr (wr (4 * (b : Int)) + 1) = ((4 * b + 1 : Nat) : Int) := by simp (disch := omega) only [wr_id]; omega
    have b2 : wr (wr (4 * (b : Int)) + 2) = ((4 * b + 2 : Nat) : Int) := by simp (disch := omega) only [wr_id]; omega
    have f3 : wr (((4 * f : Nat) : Int) + 3) = ((4 * f + 3 : Nat) : Int) := by simp (disch := omega) only [wr_id]; omega
    obtain ⟨q1, q2, q3⟩ := wk b hbK.1
    obtain ⟨q4, -⟩ := ww won (by omega)
    simp only [w_MO_goYear_38, c_ic, c_lc, c_nul, c_il, c_ll, c_al, c_is, c_ls, c_as, c_inc, c_b2, c_b2n, c_b1, c_d2, c_d2n, c_dsh, c_i2l, c_l2i, c_lcm, c_dup, c_dup2, c_pop, c_j1, c_j2, c_jn, c_sw0, c_sw, c_gI, c_gL, c_gR, c_gS, c_pI, c_pZ, c_pL, c_pR, c_iald, c_ialg, c_iast, c_iasg, c_bald, c_bast, c_lald, c_last, c_aald, c_aals, c_aast, c_alen, c_bnd, c_str, c_bndl, c_bnln, c_sval, c_scod, c_sbal, c_sbln, c_fmt, c_stop, c_iret, c_zret, c_nret, c_aret, c_vret, c_lret, c_cpy, c_callV, c_callS, tkA, lget, lput, lkill, jpush, vsz, jcat, lins, lent, List.length_cons, List.length_nil, List.replicate, List.append_nil, List.cons_append, List.nil_append, reduceIte, Nat.reduceAdd, Nat.reduceSub, Nat.reduceEqDiff, true_and, and_true, Nat.reduceLeDiff, Nat.lt_irrefl, Nat.succ_ne_self, forall_const, ne_eq, not_true_eq_false, not_false_eq_true, false_implies, implies_true, true_implies, true_or, or_true, or_false, false_or, eq_self, Int.reduceEq, Int.reduceLT, Int.reduceLE, Int.reduceNeg, Int.reduceToNat, Int.reduceAdd, Int.reduceSub, Int.reduceMul, Int.reduceNe, and_self, jln69, e0, ib1, iw1, Int.toNat_natCast, s66, ib3, iw3, k3, sA_r]
    refine ⟨⟨by omega, by omega⟩, fun z => absurd z s1, fun _ => ⟨⟨by omega, by omega⟩, by decide, ⟨by omega, by omega⟩, ?_⟩⟩
    refine ok_MA_min ?_
    simp only [c_ic, c_lc, c_nul, c_il, c_ll, c_al, c_is, c_ls, c_as, c_inc, c_b2, c_b2n, c_b1, c_d2, c_d2n, c_dsh, c_i2l, c_l2i, c_lcm, c_dup, c_dup2, c_pop, c_j1, c_j2, c_jn, c_sw0, c_sw, c_gI, c_gL, c_gR, c_gS, c_pI, c_pZ, c_pL, c_pR, c_iald, c_ialg, c_iast, c_iasg, c_bald, c_bast, c_lald, c_last, c_aald, c_aals, c_aast, c_alen, c_bnd, c_str, c_bndl, c_bnln, c_sval, c_scod, c_sbal, c_sbln, c_fmt, c_stop, c_iret, c_zret, c_nret, c_aret, c_vret, c_lret, c_cpy, c_callV, c_callS, tkA, lget, lput, lkill, jpush, vsz, jcat, lins, lent, List.length_cons, List.length_nil, List.replicate, List.append_nil, List.cons_append, List.nil_append, reduceIte, Nat.reduceAdd, Nat.reduceSub, Nat.reduceEqDiff, true_and, and_true, Nat.reduceLeDiff, Nat.lt_irrefl, Nat.succ_ne_self, forall_const, ne_eq, not_true_eq_false, not_false_eq_true, false_implies, implies_true, true_implies, true_or, or_true, or_false, false_or, eq_self, Int.reduceEq, Int.reduceLT, Int.reduceLE, Int.reduceNeg, Int.reduceToNat, Int.reduceAdd, Int.reduceSub, Int.reduceMul, Int.reduceNe, and_self, jln69, Int.toNat_natCast, b0, sA_sI, sA_r, s63]
    refine ⟨by decide, ⟨by omega, by omega⟩, by decide, ⟨by omega, by omega⟩, by decide, ?_⟩
    refine ok_MA_max ?_
    simp only [c_ic, c_lc, c_nul, c_il, c_ll, c_al, c_is, c_ls, c_as, c_inc, c_b2, c_b2n, c_b1, c_d2, c_d2n, c_dsh, c_i2l, c_l2i, c_lcm, c_dup, c_dup2, c_pop, c_j1, c_j2, c_jn, c_sw0, c_sw, c_gI, c_gL, c_gR, c_gS, c_pI, c_pZ, c_pL, c_pR, c_iald, c_ialg, c_iast, c_iasg, c_bald, c_bast, c_lald, c_last, c_aald, c_aals, c_aast, c_alen, c_bnd, c_str, c_bndl, c_bnln, c_sval, c_scod, c_sbal, c_sbln, c_fmt, c_stop, c_iret, c_zret, c_nret, c_aret, c_vret, c_lret, c_cpy, c_callV, c_callS, tkA, lget, lput, lkill, jpush, vsz, jcat, lins, lent, List.length_cons, List.length_nil, List.replicate, List.append_nil, List.cons_append, List.nil_append, reduceIte, Nat.reduceAdd, Nat.reduceSub, Nat.reduceEqDiff, true_and, and_true, Nat.reduceLeDiff, Nat.lt_irrefl, Nat.succ_ne_self, forall_const, ne_eq, not_true_eq_false, not_false_eq_true, false_implies, implies_true, true_implies, true_or, or_true, or_false, false_or, eq_self, Int.reduceEq, Int.reduceLT, Int.reduceLE, Int.reduceNeg, Int.reduceToNat, Int.reduceAdd, Int.reduceSub, Int.reduceMul, Int.reduceNe, and_self, jln69, Int.toNat_natCast, b2, sA_sI, sA_r]
    refine ⟨by decide, ⟨by omega, by omega⟩, by decide, ⟨by omega, by omega⟩, ?_⟩
    refine ok_MA_min ?_
    simp only [c_ic, c_lc, c_nul, c_il, c_ll, c_al, c_is, c_ls, c_as, c_inc, c_b2, c_b2n, c_b1, c_d2, c_d2n, c_dsh, c_i2l, c_l2i, c_lcm, c_dup, c_dup2, c_pop, c_j1, c_j2, c_jn, c_sw0, c_sw, c_gI, c_gL, c_gR, c_gS, c_pI, c_pZ, c_pL, c_pR, c_iald, c_ialg, c_iast, c_iasg, c_bald, c_bast, c_lald, c_last, c_aald, c_aals, c_aast, c_alen, c_bnd, c_str, c_bndl, c_bnln, c_sval, c_scod, c_sbal, c_sbln, c_fmt, c_stop, c_iret, c_zret, c_nret, c_aret, c_vret, c_lret, c_cpy, c_callV, c_callS, tkA, lget, lput, lkill, jpush, vsz, jcat, lins, lent, List.length_cons, List.length_nil, List.replicate, List.append_nil, List.cons_append, List.nil_append, reduceIte, Nat.reduceAdd, Nat.reduceSub, Nat.reduceEqDiff, true_and, and_true, Nat.reduceLeDiff, Nat.lt_irrefl, Nat.succ_ne_self, forall_const, ne_eq, not_true_eq_false, not_false_eq_true, false_implies, implies_true, true_implies, true_or, or_true, or_false, false_or, eq_self, Int.reduceEq, Int.reduceLT, Int.reduceLE, Int.reduceNeg, Int.reduceToNat, Int.reduceAdd, Int.reduceSub, Int.reduceMul, Int.reduceNe, and_self, jln69, Int.toNat_natCast, b1, e0, f3, sA_sI, sA_r, s66]
    refine ⟨by decide, ⟨by omega, by omega⟩, ⟨by omega, by omega⟩, by decide, ⟨by omega, by omega⟩, ?_⟩
    have n1 : 4 * b ≠ 4 * won + 3 := by omega
    have n2 : 4 * b + 2 ≠ 4 * won + 3 := by omega
    have n3 : 4 * b + 2 ≠ 4 * b := by omega
    have n4 : 4 * b + 1 ≠ 4 * b + 2 := by omega
    have n5 : 4 * b + 1 ≠ 4 * b := by omega
    have n6 : 4 * b + 1 ≠ 4 * won + 3 := by omega
    rw [up_ne n1, up_ne n3, up_ne n2, up_ne n4, up_ne n5, up_ne n6, r66, r63]
    rw [wr_id (x := σ.1 69 j (4 * won + 3) + 1) (by omega) (by omega), wr_id (x := σ.1 69 j (4 * b) - σ.1 63 0 0) (by omega) (by omega), wr_id (x := σ.1 69 j (4 * b + 2) + 1) (by omega) (by omega), wr_id (x := σ.1 66 0 (4 * f + 3) + σ.1 69 j (4 * b + 1)) (by omega) (by omega)]
    have V19 : ∀ p, 16 ≤ p → yV3 (σ.1 63 0 0) (σ.1 69 j) won b p = σ.1 69 j p := by
      intro p hp
      unfold yV3
      rw [up_ne (by omega), up_ne (by omega), up_ne (by omega)]
    refine ok_MO_writes (W := yV3 (σ.1 63 0 0) (σ.1 69 j) won b) (by rw [V19 19 (by decide)]; exact w19) ?_
    have L : ∀ p, (p = 17 ∨ p = 18 ∨ p = 110) → wriS (yV3 (σ.1 63 0 0) (σ.1 69 j) won b) f b (σ.1 66 0 (4 * f + 3) + σ.1 69 j (4 * b + 1)) p = σ.1 69 j p := by
      intro p hp
      rw [wriS_lo (by rw [V19 19 (by decide)]; omega), V19 p (by omega)]
    simp only [c_ic, c_lc, c_nul, c_il, c_ll, c_al, c_is, c_ls, c_as, c_inc, c_b2, c_b2n, c_b1, c_d2, c_d2n, c_dsh, c_i2l, c_l2i, c_lcm, c_dup, c_dup2, c_pop, c_j1, c_j2, c_jn, c_sw0, c_sw, c_gI, c_gL, c_gR, c_gS, c_pI, c_pZ, c_pL, c_pR, c_iald, c_ialg, c_iast, c_iasg, c_bald, c_bast, c_lald, c_last, c_aald, c_aals, c_aast, c_alen, c_bnd, c_str, c_bndl, c_bnln, c_sval, c_scod, c_sbal, c_sbln, c_fmt, c_stop, c_iret, c_zret, c_nret, c_aret, c_vret, c_lret, c_cpy, c_callV, c_callS, tkA, lget, lput, lkill, jpush, vsz, jcat, lins, lent, List.length_cons, List.length_nil, List.replicate, List.append_nil, List.cons_append, List.nil_append, reduceIte, Nat.reduceAdd, Nat.reduceSub, Nat.reduceEqDiff, true_and, and_true, Nat.reduceLeDiff, Nat.lt_irrefl, Nat.succ_ne_self, forall_const, ne_eq, not_true_eq_false, not_false_eq_true, false_implies, implies_true, true_implies, true_or, or_true, or_false, false_or, eq_self, Int.reduceEq, Int.reduceLT, Int.reduceLE, Int.reduceNeg, Int.reduceToNat, Int.reduceAdd, Int.reduceSub, Int.reduceMul, Int.reduceNe, and_self, jln69, Int.reduceToNat, sA_r, sA_sI]
    refine ⟨by decide, by decide, ?_⟩
    refine ok_MA_min ?_
    simp only [c_ic, c_lc, c_nul, c_il, c_ll, c_al, c_is, c_ls, c_as, c_inc, c_b2, c_b2n, c_b1, c_d2, c_d2n, c_dsh, c_i2l, c_l2i, c_lcm, c_dup, c_dup2, c_pop, c_j1, c_j2, c_jn, c_sw0, c_sw, c_gI, c_gL, c_gR, c_gS, c_pI, c_pZ, c_pL, c_pR, c_iald, c_ialg, c_iast, c_iasg, c_bald, c_bast, c_lald, c_last, c_aald, c_aals, c_aast, c_alen, c_bnd, c_str, c_bndl, c_bnln, c_sval, c_scod, c_sbal, c_sbln, c_fmt, c_stop, c_iret, c_zret, c_nret, c_aret, c_vret, c_lret, c_cpy, c_callV, c_callS, tkA, lget, lput, lkill, jpush, vsz, jcat, lins, lent, List.length_cons, List.length_nil, List.replicate, List.append_nil, List.cons_append, List.nil_append, reduceIte, Nat.reduceAdd, Nat.reduceSub, Nat.reduceEqDiff, true_and, and_true, Nat.reduceLeDiff, Nat.lt_irrefl, Nat.succ_ne_self, forall_const, ne_eq, not_true_eq_false, not_false_eq_true, false_implies, implies_true, true_implies, true_or, or_true, or_false, false_or, eq_self, Int.reduceEq, Int.reduceLT, Int.reduceLE, Int.reduceNeg, Int.reduceToNat, Int.reduceAdd, Int.reduceSub, Int.reduceMul, Int.reduceNe, and_self, jln69, Int.reduceToNat, sA_r, sA_sI]
    refine ⟨by decide, by decide, ?_⟩
    rw [L 17 (Or.inl rfl), wr_id (x := σ.1 69 j 17 + 1) (by omega) (by omega)]
    have eT : yTl (σ.1 66 0) (σ.1 69 j) f s = σ.1 66 0 (4 * f + 3) + σ.1 69 j (4 * b + 1) := by
      unfold yTl
      rw [if_neg s1, hb, Int.toNat_natCast]
    rw [eT, hb, hwon, Int.toNat_natCast, Int.toNat_natCast] at h
    refine tail _ _ _ _ (by rw [up_ne (by decide), L 110 (by decide)]; exact w110) (by rw [up_ne (by decide), L 18 (by decide)]; omega) ?_
    rw [up_ne (show 18 ≠ 17 by decide), L 18 (by decide)]
    exact h
