/-! ===== 94 pairs: rests ===== -/
def rstB (lw : Option (List Int)) (G W : Nat → Int) (f : Nat) (x y : Int) : Bool := decide (¬ gnS lw G W f x y 0 < gnS lw G W f (1 - x) y 0) && decide (¬ gnS lw G W f x y 1 < gnS lw G W f x (1 - y) 1)
def rsN (a b c d : Bool) : Nat := (if a then 1 else 0) + (if b then 2 else 0) + (if c then 1024 else 0) + (if d then 2048 else 0)
def rsL (a b c d : Bool) : List Nat := (if a then [0] else []) ++ ((if b then [1] else []) ++ ((if c then [10] else []) ++ (if d then [11] else [])))
theorem rs_or : ∀ a b c d : Bool, jor (jor (jor (jor 0 (if a = true then jshl 1 0 else 0)) (if b = true then jshl 1 1 else 0)) (if c = true then jshl 1 10 else 0)) (if d = true then jshl 1 11 else 0) = rsN a b c d := by decide +kernel
theorem rs_set : ∀ a b c d : Bool, setL (bt (rsN a b c d)) 24 0 = rsL a b c d := by decide +kernel
theorem rs_lt : ∀ a b c d : Bool, rsN a b c d < 16777216 := by decide +kernel
section QU
variable {σ : jM} {Φ : jPh} {d : Nat} {K F r N : Nat} {CL : Nat → List Int} {ru G W : Nat → Int} {v : Int}
theorem ok_LB_isRest {f : Nat} {x y : Int} (h : JQ σ K F r N CL ru G W v) (hf : f < F) (hx : x = 0 ∨ x = 1) (hy : y = 0 ∨ y = 1) (hp : ∀ τ, Fr SP σ τ → Φ (some (.inl (if rstB (lwO v CL) G W f x y = true then 1 else 0))) τ) : Ct (d + 6) M_LB_isRest [rf 9 0, .inl f, .inl x, .inl y] σ Φ := by
  refine i_LB_isRest (Nat.le_refl 4) ?_
  have e1 : wr (1 - x) = 1 - x := wr_id (by omega) (by omega)
  have e2 : wr (1 - y) = 1 - y := wr_id (by omega) (by omega)
  simp only [w_LB_isRest_47, w_LB_isRest_46, w_LB_isRest_0, c_ic, c_lc, c_nul, c_il, c_ll, c_al, c_is, c_ls, c_as, c_inc, c_b2, c_b2n, c_b1, c_d2, c_d2n, c_dsh, c_i2l, c_l2i, c_lcm, c_dup, c_dup2, c_pop, c_j1, c_j2, c_jn, c_sw0, c_sw, c_gI, c_gL, c_gR, c_gS, c_pI, c_pZ, c_pL, c_pR, c_iald, c_ialg, c_iast, c_iasg, c_bald, c_bast, c_lald, c_last, c_aald, c_aals, c_aast, c_alen, c_bnd, c_str, c_bndl, c_bnln, c_sval, c_scod, c_sbal, c_sbln, c_fmt, c_stop, c_iret, c_zret, c_nret, c_aret, c_vret, c_lret, c_cpy, c_callV, c_callS, tkA, lget, lput, lkill, jpush, vsz, jcat, lins, lent, List.length_cons, List.length_nil, List.replicate, List.append_nil, List.cons_append, List.nil_append, reduceIte, Nat.reduceAdd, Nat.reduceSub, Nat.reduceEqDiff, true_and, and_true, Nat.reduceLeDiff, Nat.lt_irrefl, Nat.succ_ne_self, forall_const, ne_eq, not_true_eq_false, not_false_eq_true, false_implies, implies_true, true_implies, true_or, or_true, or_false, false_or, eq_self, Int.reduceEq, Int.reduceLT, Int.reduceLE, Int.reduceNeg, Int.reduceToNat, Int.reduceAdd, Int.reduceSub, Int.reduceMul, Int.reduceNe, and_self, e1, e2]
  refine ok_LB_gain (side := 0) h hf (by decide) hx hy (fun τ1 t1 => ?_)
  simp only [c_ic, c_lc, c_nul, c_il, c_ll, c_al, c_is, c_ls, c_as, c_inc, c_b2, c_b2n, c_b1, c_d2, c_d2n, c_dsh, c_i2l, c_l2i, c_lcm, c_dup, c_dup2, c_pop, c_j1, c_j2, c_jn, c_sw0, c_sw, c_gI, c_gL, c_gR, c_gS, c_pI, c_pZ, c_pL, c_pR, c_iald, c_ialg, c_iast, c_iasg, c_bald, c_bast, c_lald, c_last, c_aald, c_aals, c_aast, c_alen, c_bnd, c_str, c_bndl, c_bnln, c_sval, c_scod, c_sbal, c_sbln, c_fmt, c_stop, c_iret, c_zret, c_nret, c_aret, c_vret, c_lret, c_cpy, c_callV, c_callS, tkA, lget, lput, lkill, jpush, vsz, jcat, lins, lent, List.length_cons, List.length_nil, List.replicate, List.append_nil, List.cons_append, List.nil_append, reduceIte, Nat.reduceAdd, Nat.reduceSub, Nat.reduceEqDiff, true_and, and_true, Nat.reduceLeDiff, Nat.lt_irrefl, Nat.succ_ne_self, forall_const, ne_eq, not_true_eq_false, not_false_eq_true, false_implies, implies_true, true_implies, true_or, or_true, or_false, false_or, eq_self, Int.reduceEq, Int.reduceLT, Int.reduceLE, Int.reduceNeg, Int.reduceToNat, Int.reduceAdd, Int.reduceSub, Int.reduceMul, Int.reduceNe, and_self]
  refine ok_LB_gain (side := 0) (h.sp t1) hf (by decide) (by omega) hy (fun τ2 t2 => ?_)
  simp only [c_ic, c_lc, c_nul, c_il, c_ll, c_al, c_is, c_ls, c_as, c_inc, c_b2, c_b2n, c_b1, c_d2, c_d2n, c_dsh, c_i2l, c_l2i, c_lcm, c_dup, c_dup2, c_pop, c_j1, c_j2, c_jn, c_sw0, c_sw, c_gI, c_gL, c_gR, c_gS, c_pI, c_pZ, c_pL, c_pR, c_iald, c_ialg, c_iast, c_iasg, c_bald, c_bast, c_lald, c_last, c_aald, c_aals, c_aast, c_alen, c_bnd, c_str, c_bndl, c_bnln, c_sval, c_scod, c_sbal, c_sbln, c_fmt, c_stop, c_iret, c_zret, c_nret, c_aret, c_vret, c_lret, c_cpy, c_callV, c_callS, tkA, lget, lput, lkill, jpush, vsz, jcat, lins, lent, List.length_cons, List.length_nil, List.replicate, List.append_nil, List.cons_append, List.nil_append, reduceIte, Nat.reduceAdd, Nat.reduceSub, Nat.reduceEqDiff, true_and, and_true, Nat.reduceLeDiff, Nat.lt_irrefl, Nat.succ_ne_self, forall_const, ne_eq, not_true_eq_false, not_false_eq_true, false_implies, implies_true, true_implies, true_or, or_true, or_false, false_or, eq_self, Int.reduceEq, Int.reduceLT, Int.reduceLE, Int.reduceNeg, Int.reduceToNat, Int.reduceAdd, Int.reduceSub, Int.reduceMul, Int.reduceNe, and_self]
  refine ⟨fun z => ?_, fun z => ?_⟩
  · have hp := hp τ2 (t1.tr t2)
    unfold rstB at hp
    simp only [z, not_true_eq_false, decide_false, Bool.false_and, Bool.false_eq_true, if_false] at hp
    exact hp
  · refine ok_LB_gain (side := 1) ((h.sp t1).sp t2) hf (by decide) hx hy (fun τ3 t3 => ?_)
    simp only [c_ic, c_lc, c_nul, c_il, c_ll, c_al, c_is, c_ls, c_as, c_inc, c_b2, c_b2n, c_b1, c_d2, c_d2n, c_dsh, c_i2l, c_l2i, c_lcm, c_dup, c_dup2, c_pop, c_j1, c_j2, c_jn, c_sw0, c_sw, c_gI, c_gL, c_gR, c_gS, c_pI, c_pZ, c_pL, c_pR, c_iald, c_ialg, c_iast, c_iasg, c_bald, c_bast, c_lald, c_last, c_aald, c_aals, c_aast, c_alen, c_bnd, c_str, c_bndl, c_bnln, c_sval, c_scod, c_sbal, c_sbln, c_fmt, c_stop, c_iret, c_zret, c_nret, c_aret, c_vret, c_lret, c_cpy, c_callV, c_callS, tkA, lget, lput, lkill, jpush, vsz, jcat, lins, lent, List.length_cons, List.length_nil, List.replicate, List.append_nil, List.cons_append, List.nil_append, reduceIte, Nat.reduceAdd, Nat.reduceSub, Nat.reduceEqDiff, true_and, and_true, Nat.reduceLeDiff, Nat.lt_irrefl, Nat.succ_ne_self, forall_const, ne_eq, not_true_eq_false, not_false_eq_true, false_implies, implies_true, true_implies, true_or, or_true, or_false, false_or, eq_self, Int.reduceEq, Int.reduceLT, Int.reduceLE, Int.reduceNeg, Int.reduceToNat, Int.reduceAdd, Int.reduceSub, Int.reduceMul, Int.reduceNe, and_self]
    refine ok_LB_gain (side := 1) (((h.sp t1).sp t2).sp t3) hf (by decide) hx (by omega) (fun τ4 t4 => ?_)
    simp only [c_ic, c_lc, c_nul, c_il, c_ll, c_al, c_is, c_ls, c_as, c_inc, c_b2, c_b2n, c_b1, c_d2, c_d2n, c_dsh, c_i2l, c_l2i, c_lcm, c_dup, c_dup2, c_pop, c_j1, c_j2, c_jn, c_sw0, c_sw, c_gI, c_gL, c_gR, c_gS, c_pI, c_pZ, c_pL, c_pR, c_iald, c_ialg, c_iast, c_iasg, c_bald, c_bast, c_lald, c_last, c_aald, c_aals, c_aast, c_alen, c_bnd, c_str, c_bndl, c_bnln, c_sval, c_scod, c_sbal, c_sbln, c_fmt, c_stop, c_iret, c_zret, c_nret, c_aret, c_vret, c_lret, c_cpy, c_callV, c_callS, tkA, lget, lput, lkill, jpush, vsz, jcat, lins, lent, List.length_cons, List.length_nil, List.replicate, List.append_nil, List.cons_append, List.nil_append, reduceIte, Nat.reduceAdd, Nat.reduceSub, Nat.reduceEqDiff, true_and, and_true, Nat.reduceLeDiff, Nat.lt_irrefl, Nat.succ_ne_self, forall_const, ne_eq, not_true_eq_false, not_false_eq_true, false_implies, implies_true, true_implies, true_or, or_true, or_false, false_or, eq_self, Int.reduceEq, Int.reduceLT, Int.reduceLE, Int.reduceNeg, Int.reduceToNat, Int.reduceAdd, Int.reduceSub, Int.reduceMul, Int.reduceNe, and_self]
    have hp := hp τ4 (((t1.tr t2).tr t3).tr t4)
    unfold rstB at hp
    refine ⟨fun z2 => ?_, fun z2 => ?_⟩
    · simp only [z, z2, not_true_eq_false, not_false_eq_true, decide_true, decide_false, Bool.true_and, Bool.false_eq_true, if_false] at hp
      exact hp
    · simp only [z, z2, not_false_eq_true, decide_true, Bool.true_and, if_true] at hp
      exact hp
end QU
theorem pr_rests {f i : Int} : Pr M_LB_rests M_MO_rests [.inl f, .inl i] := by
  intro σ q hJ
  obtain ⟨n, T, K, F, r, N, P, CL, PL, U, nt, rfl, hJx⟩ := id hJ
  obtain ⟨hT, hR, hW, hA, hI, hK, hM, hP, hN, hG⟩ := id hJx
  obtain ⟨q1, -, -, -, -, q4, q5, K4, F8, q6⟩ := id hR
  refine Ct.ok (fun ha _ => ?_)
  have hi : inR i := ha i (by simp)
  refine i_LB_rests (Nat.le_add_right 3 3) (fun At h15 h24 => ?_)
  simp only [w_LB_rests_0, w_LB_rests_10, c_ic, c_lc, c_nul, c_il, c_ll, c_al, c_is, c_ls, c_as, c_inc, c_b2, c_b2n, c_b1, c_d2, c_d2n, c_dsh, c_i2l, c_l2i, c_lcm, c_dup, c_dup2, c_pop, c_j1, c_j2, c_jn, c_sw0, c_sw, c_gI, c_gL, c_gR, c_gS, c_pI, c_pZ, c_pL, c_pR, c_iald, c_ialg, c_iast, c_iasg, c_bald, c_bast, c_lald, c_last, c_aald, c_aals, c_aast, c_alen, c_bnd, c_str, c_bndl, c_bnln, c_sval, c_scod, c_sbal, c_sbln, c_fmt, c_stop, c_iret, c_zret, c_nret, c_aret, c_vret, c_lret, c_cpy, c_callV, c_callS, tkA, lget, lput, lkill, jpush, vsz, jcat, lins, lent, List.length_cons, List.length_nil, List.replicate, List.append_nil, List.cons_append, List.nil_append, reduceIte, Nat.reduceAdd, Nat.reduceSub, Nat.reduceEqDiff, true_and, and_true, Nat.reduceLeDiff, Nat.lt_irrefl, Nat.succ_ne_self, forall_const, ne_eq, not_true_eq_false, not_false_eq_true, false_implies, implies_true, true_implies, true_or, or_true, or_false, false_or, eq_self, Int.reduceEq, Int.reduceLT, Int.reduceLE, Int.reduceNeg, Int.reduceToNat, Int.reduceAdd, Int.reduceSub, Int.reduceMul, Int.reduceNe, and_self]
  refine ok_LB_isField hR ?_
  simp only [c_ic, c_lc, c_nul, c_il, c_ll, c_al, c_is, c_ls, c_as, c_inc, c_b2, c_b2n, c_b1, c_d2, c_d2n, c_dsh, c_i2l, c_l2i, c_lcm, c_dup, c_dup2, c_pop, c_j1, c_j2, c_jn, c_sw0, c_sw, c_gI, c_gL, c_gR, c_gS, c_pI, c_pZ, c_pL, c_pR, c_iald, c_ialg, c_iast, c_iasg, c_bald, c_bast, c_lald, c_last, c_aald, c_aals, c_aast, c_alen, c_bnd, c_str, c_bndl, c_bnln, c_sval, c_scod, c_sbal, c_sbln, c_fmt, c_stop, c_iret, c_zret, c_nret, c_aret, c_vret, c_lret, c_cpy, c_callV, c_callS, tkA, lget, lput, lkill, jpush, vsz, jcat, lins, lent, List.length_cons, List.length_nil, List.replicate, List.append_nil, List.cons_append, List.nil_append, reduceIte, Nat.reduceAdd, Nat.reduceSub, Nat.reduceEqDiff, true_and, and_true, Nat.reduceLeDiff, Nat.lt_irrefl, Nat.succ_ne_self, forall_const, ne_eq, not_true_eq_false, not_false_eq_true, false_implies, implies_true, true_implies, true_or, or_true, or_false, false_or, eq_self, Int.reduceEq, Int.reduceLT, Int.reduceLE, Int.reduceNeg, Int.reduceToNat, Int.reduceAdd, Int.reduceSub, Int.reduceMul, Int.reduceNe, and_self]
  refine ⟨fun z => ?_, fun z => ⟨⟨_, rfl⟩, ?_⟩⟩
  rotate_left
  · refine i_MO_rests (Nat.le_add_right 3 3) (fun At h25 h34 => ?_)
    simp only [w_MO_rests_0, w_MO_rests_18, c_ic, c_lc, c_nul, c_il, c_ll, c_al, c_is, c_ls, c_as, c_inc, c_b2, c_b2n, c_b1, c_d2, c_d2n, c_dsh, c_i2l, c_l2i, c_lcm, c_dup, c_dup2, c_pop, c_j1, c_j2, c_jn, c_sw0, c_sw, c_gI, c_gL, c_gR, c_gS, c_pI, c_pZ, c_pL, c_pR, c_iald, c_ialg, c_iast, c_iasg, c_bald, c_bast, c_lald, c_last, c_aald, c_aals, c_aast, c_alen, c_bnd, c_str, c_bndl, c_bnln, c_sval, c_scod, c_sbal, c_sbln, c_fmt, c_stop, c_iret, c_zret, c_nret, c_aret, c_vret, c_lret, c_cpy, c_callV, c_callS, tkA, lget, lput, lkill, jpush, vsz, jcat, lins, lent, List.length_cons, List.length_nil, List.replicate, List.append_nil, List.cons_append, List.nil_append, reduceIte, Nat.reduceAdd, Nat.reduceSub, Nat.reduceEqDiff, true_and, and_true, Nat.reduceLeDiff, Nat.lt_irrefl, Nat.succ_ne_self, forall_const, ne_eq, not_true_eq_false, not_false_eq_true, false_implies, implies_true, true_implies, true_or, or_true, or_false, false_or, eq_self, Int.reduceEq, Int.reduceLT, Int.reduceLE, Int.reduceNeg, Int.reduceToNat, Int.reduceAdd, Int.reduceSub, Int.reduceMul, Int.reduceNe, and_self]
    refine ok_MO_isField (F := F) q5 ?_
    rw [if_neg (fun w => z (by rw [if_pos w]; decide))]
    simp only [c_ic, c_lc, c_nul, c_il, c_ll, c_al, c_is, c_ls, c_as, c_inc, c_b2, c_b2n, c_b1, c_d2, c_d2n, c_dsh, c_i2l, c_l2i, c_lcm, c_dup, c_dup2, c_pop, c_j1, c_j2, c_jn, c_sw0, c_sw, c_gI, c_gL, c_gR, c_gS, c_pI, c_pZ, c_pL, c_pR, c_iald, c_ialg, c_iast, c_iasg, c_bald, c_bast, c_lald, c_last, c_aald, c_aals, c_aast, c_alen, c_bnd, c_str, c_bndl, c_bnln, c_sval, c_scod, c_sbal, c_sbln, c_fmt, c_stop, c_iret, c_zret, c_nret, c_aret, c_vret, c_lret, c_cpy, c_callV, c_callS, tkA, lget, lput, lkill, jpush, vsz, jcat, lins, lent, List.length_cons, List.length_nil, List.replicate, List.append_nil, List.cons_append, List.nil_append, reduceIte, Nat.reduceAdd, Nat.reduceSub, Nat.reduceEqDiff, true_and, and_true, Nat.reduceLeDiff, Nat.lt_irrefl, Nat.succ_ne_self, forall_const, ne_eq, not_true_eq_false, not_false_eq_true, false_implies, implies_true, true_implies, true_or, or_true, or_false, false_or, eq_self, Int.reduceEq, Int.reduceLT, Int.reduceLE, Int.reduceNeg, Int.reduceToNat, Int.reduceAdd, Int.reduceSub, Int.reduceMul, Int.reduceNe, and_self]
    exact hJ.sc th_sc
  have z1 : 0 ≤ f ∧ f < F := Classical.byContradiction (fun q => z (if_neg q))
  obtain ⟨f, rfl⟩ := Int.eq_ofNat_of_zero_le z1.1
  have hf : f < F := by omega
  have hQ := hJx.q (Or.inl (by omega))
  generalize hR00 : rstB (lwO (σ.1 10 0 34) CL) (σ.1 66 0) (σ.1 69 0) f 0 0 = R00 at *
  generalize hR01 : rstB (lwO (σ.1 10 0 34) CL) (σ.1 66 0) (σ.1 69 0) f 0 1 = R01 at *
  generalize hR10 : rstB (lwO (σ.1 10 0 34) CL) (σ.1 66 0) (σ.1 69 0) f 1 0 = R10 at *
  generalize hR11 : rstB (lwO (σ.1 10 0 34) CL) (σ.1 66 0) (σ.1 69 0) f 1 1 = R11 at *
  -- the class
  have sy : ∀ (x y bits : Int) (τ : jM), (x = 0 ∨ x = 1) → (y = 0 ∨ y = 1) → Fr SP σ τ → (∀ τ', Fr SP σ τ' → At 24 [some (rf 9 0), some (.inl f), some (.inl i), some (.inl (jor bits (if rstB (lwO (σ.1 10 0 34) CL) (σ.1 66 0) (σ.1 69 0) f x y = true then jshl 1 (10 * x + y) else 0))), some (.inl x), some (.inl (y + 1))] [] τ') → At 24 [some (rf 9 0), some (.inl f), some (.inl i), some (.inl bits), some (.inl x), some (.inl y)] [] τ := by
    intro x y bits τ hx hy t1 hq
    refine h24 _ _ _ ?_
    have e1 : wr (y + 1) = y + 1 := wr_id (by omega) (by omega)
    have e2 : wr (wr (10 * x) + y) = 10 * x + y := by simp (disch := omega) only [wr_id]
    simp only [w_LB_rests_24, c_ic, c_lc, c_nul, c_il, c_ll, c_al, c_is, c_ls, c_as, c_inc, c_b2, c_b2n, c_b1, c_d2, c_d2n, c_dsh, c_i2l, c_l2i, c_lcm, c_dup, c_dup2, c_pop, c_j1, c_j2, c_jn, c_sw0, c_sw, c_gI, c_gL, c_gR, c_gS, c_pI, c_pZ, c_pL, c_pR, c_iald, c_ialg, c_iast, c_iasg, c_bald, c_bast, c_lald, c_last, c_aald, c_aals, c_aast, c_alen, c_bnd, c_str, c_bndl, c_bnln, c_sval, c_scod, c_sbal, c_sbln, c_fmt, c_stop, c_iret, c_zret, c_nret, c_aret, c_vret, c_lret, c_cpy, c_callV, c_callS, tkA, lget, lput, lkill, jpush, vsz, jcat, lins, lent, List.length_cons, List.length_nil, List.replicate, List.append_nil, List.cons_append, List.nil_append, reduceIte, Nat.reduceAdd, Nat.reduceSub, Nat.reduceEqDiff, true_and, and_true, Nat.reduceLeDiff, Nat.lt_irrefl, Nat.succ_ne_self, forall_const, ne_eq, not_true_eq_false, not_false_eq_true, false_implies, implies_true, true_implies, true_or, or_true, or_false, false_or, eq_self, Int.reduceEq, Int.reduceLT, Int.reduceLE, Int.reduceNeg, Int.reduceToNat, Int.reduceAdd, Int.reduceSub, Int.reduceMul, Int.reduceNe, and_self, e1, e2]
    refine ⟨fun w => absurd w (by omega), fun _ => ?_⟩
    refine ok_LB_isRest (hQ.sp t1) hf hx hy (fun υ u1 => ?_)
    have hq := hq υ (t1.tr u1)
    simp only [w_LB_rests_56, w_LB_rests_57, c_ic, c_lc, c_nul, c_il, c_ll, c_al, c_is, c_ls, c_as, c_inc, c_b2, c_b2n, c_b1, c_d2, c_d2n, c_dsh, c_i2l, c_l2i, c_lcm, c_dup, c_dup2, c_pop, c_j1, c_j2, c_jn, c_sw0, c_sw, c_gI, c_gL, c_gR, c_gS, c_pI, c_pZ, c_pL, c_pR, c_iald, c_ialg, c_iast, c_iasg, c_bald, c_bast, c_lald, c_last, c_aald, c_aals, c_aast, c_alen, c_bnd, c_str, c_bndl, c_bnln, c_sval, c_scod, c_sbal, c_sbln, c_fmt, c_stop, c_iret, c_zret, c_nret, c_aret, c_vret, c_lret, c_cpy, c_callV, c_callS, tkA, lget, lput, lkill, jpush, vsz, jcat, lins, lent, List.length_cons, List.length_nil, List.replicate, List.append_nil, List.cons_append, List.nil_append, reduceIte, Nat.reduceAdd, Nat.reduceSub, Nat.reduceEqDiff, true_and, and_true, Nat.reduceLeDiff, Nat.lt_irrefl, Nat.succ_ne_self, forall_const, ne_eq, not_true_eq_false, not_false_eq_true, false_implies, implies_true, true_implies, true_or, or_true, or_false, false_or, eq_self, Int.reduceEq, Int.reduceLT, Int.reduceLE, Int.reduceNeg, Int.reduceToNat, Int.reduceAdd, Int.reduceSub, Int.reduceMul, Int.reduceNe, and_self, e1]
    by_cases y : rstB (lwO (σ.1 10 0 34) CL) (σ.1 66 0) (σ.1 69 0) f x y = true
    · rw [if_pos y] at hq ⊢
      exact ⟨fun w => absurd w (by decide), fun _ => hq⟩
    · rw [if_neg y] at hq ⊢
      exact ⟨fun _ => hq, fun w => absurd rfl w⟩
  have sx : ∀ (x bits : Int) (τ : jM) (y0 : Option jV), (x = 0 ∨ x = 1) → Fr SP σ τ → (∀ τ', Fr SP σ τ' → At 15 [some (rf 9 0), some (.inl f), some (.inl i), some (.inl (jor (jor bits (if rstB (lwO (σ.1 10 0 34) CL) (σ.1 66 0) (σ.1 69 0) f x 0 = true then jshl 1 (10 * x + 0) else 0)) (if rstB (lwO (σ.1 10 0 34) CL) (σ.1 66 0) (σ.1 69 0) f x 1 = true then jshl 1 (10 * x + 1) else 0))), some (.inl (x + 1)), some (.inl 2)] [] τ') → At 15 [some (rf 9 0), some (.inl f), some (.inl i), some (.inl bits), some (.inl x), y0] [] τ := by
    intro x bits τ y0 hx t1 hq
    refine h15 _ _ _ ?_
    simp only [w_LB_rests_15, c_ic, c_lc, c_nul, c_il, c_ll, c_al, c_is, c_ls, c_as, c_inc, c_b2, c_b2n, c_b1, c_d2, c_d2n, c_dsh, c_i2l, c_l2i, c_lcm, c_dup, c_dup2, c_pop, c_j1, c_j2, c_jn, c_sw0, c_sw, c_gI, c_gL, c_gR, c_gS, c_pI, c_pZ, c_pL, c_pR, c_iald, c_ialg, c_iast, c_iasg, c_bald, c_bast, c_lald, c_last, c_aald, c_aals, c_aast, c_alen, c_bnd, c_str, c_bndl, c_bnln, c_sval, c_scod, c_sbal, c_sbln, c_fmt, c_stop, c_iret, c_zret, c_nret, c_aret, c_vret, c_lret, c_cpy, c_callV, c_callS, tkA, lget, lput, lkill, jpush, vsz, jcat, lins, lent, List.length_cons, List.length_nil, List.replicate, List.append_nil, List.cons_append, List.nil_append, reduceIte, Nat.reduceAdd, Nat.reduceSub, Nat.reduceEqDiff, true_and, and_true, Nat.reduceLeDiff, Nat.lt_irrefl, Nat.succ_ne_self, forall_const, ne_eq, not_true_eq_false, not_false_eq_true, false_implies, implies_true, true_implies, true_or, or_true, or_false, false_or, eq_self, Int.reduceEq, Int.reduceLT, Int.reduceLE, Int.reduceNeg, Int.reduceToNat, Int.reduceAdd, Int.reduceSub, Int.reduceMul, Int.reduceNe, and_self]
    refine ⟨fun w => absurd w (by omega), fun _ => ?_⟩
    refine sy x 0 bits τ hx (Or.inl rfl) t1 (fun υ u1 => ?_)
    refine sy x 1 _ υ hx (Or.inr rfl) u1 (fun φ f1 => ?_)
    refine h24 _ _ _ ?_
    have e1 : wr (x + 1) = x + 1 := wr_id (by omega) (by omega)
    simp only [w_LB_rests_24, w_LB_rests_65, c_ic, c_lc, c_nul, c_il, c_ll, c_al, c_is, c_ls, c_as, c_inc, c_b2, c_b2n, c_b1, c_d2, c_d2n, c_dsh, c_i2l, c_l2i, c_lcm, c_dup, c_dup2, c_pop, c_j1, c_j2, c_jn, c_sw0, c_sw, c_gI, c_gL, c_gR, c_gS, c_pI, c_pZ, c_pL, c_pR, c_iald, c_ialg, c_iast, c_iasg, c_bald, c_bast, c_lald, c_last, c_aald, c_aals, c_aast, c_alen, c_bnd, c_str, c_bndl, c_bnln, c_sval, c_scod, c_sbal, c_sbln, c_fmt, c_stop, c_iret, c_zret, c_nret, c_aret, c_vret, c_lret, c_cpy, c_callV, c_callS, tkA, lget, lput, lkill, jpush, vsz, jcat, lins, lent, List.length_cons, List.length_nil, List.replicate, List.append_nil, List.cons_append, List.nil_append, reduceIte, Nat.reduceAdd, Nat.reduceSub, Nat.reduceEqDiff, true_and, and_true, Nat.reduceLeDiff, Nat.lt_irrefl, Nat.succ_ne_self, forall_const, ne_eq, not_true_eq_false, not_false_eq_true, false_implies, implies_true, true_implies, true_or, or_true, or_false, false_or, eq_self, Int.reduceEq, Int.reduceLT, Int.reduceLE, Int.reduceNeg, Int.reduceToNat, Int.reduceAdd, Int.reduceSub, Int.reduceMul, Int.reduceNe, and_self, e1]
    exact hq φ f1
  refine sx 0 0 σ none (Or.inl rfl) Fr.rf (fun τ t1 => ?_)
  refine sx 1 _ τ _ (Or.inr rfl) t1 (fun υ u1 => ?_)
  refine h15 _ _ _ ?_
  rw [hR00, hR01, hR10, hR11]
  simp only [w_LB_rests_15, w_LB_rests_71, c_ic, c_lc, c_nul, c_il, c_ll, c_al, c_is, c_ls, c_as, c_inc, c_b2, c_b2n, c_b1, c_d2, c_d2n, c_dsh, c_i2l, c_l2i, c_lcm, c_dup, c_dup2, c_pop, c_j1, c_j2, c_jn, c_sw0, c_sw, c_gI, c_gL, c_gR, c_gS, c_pI, c_pZ, c_pL, c_pR, c_iald, c_ialg, c_iast, c_iasg, c_bald, c_bast, c_lald, c_last, c_aald, c_aals, c_aast, c_alen, c_bnd, c_str, c_bndl, c_bnln, c_sval, c_scod, c_sbal, c_sbln, c_fmt, c_stop, c_iret, c_zret, c_nret, c_aret, c_vret, c_lret, c_cpy, c_callV, c_callS, tkA, lget, lput, lkill, jpush, vsz, jcat, lins, lent, List.length_cons, List.length_nil, List.replicate, List.append_nil, List.cons_append, List.nil_append, reduceIte, Nat.reduceAdd, Nat.reduceSub, Nat.reduceEqDiff, true_and, and_true, Nat.reduceLeDiff, Nat.lt_irrefl, Nat.succ_ne_self, forall_const, ne_eq, not_true_eq_false, not_false_eq_true, false_implies, implies_true, true_implies, true_or, or_true, or_false, false_or, eq_self, Int.reduceEq, Int.reduceLT, Int.reduceLE, Int.reduceNeg, Int.reduceToNat, Int.reduceAdd, Int.reduceSub, Int.reduceMul, Int.reduceNe, and_self, Int.mul_zero, Int.zero_add, Int.add_zero]
  rw [rs_or]
  refine ok_LB_pick (rs_lt _ _ _ _) hi ?_
  rw [rs_set]
  simp only [c_ic, c_lc, c_nul, c_il, c_ll, c_al, c_is, c_ls, c_as, c_inc, c_b2, c_b2n, c_b1, c_d2, c_d2n, c_dsh, c_i2l, c_l2i, c_lcm, c_dup, c_dup2, c_pop, c_j1, c_j2, c_jn, c_sw0, c_sw, c_gI, c_gL, c_gR, c_gS, c_pI, c_pZ, c_pL, c_pR, c_iald, c_ialg, c_iast, c_iasg, c_bald, c_bast, c_lald, c_last, c_aald, c_aals, c_aast, c_alen, c_bnd, c_str, c_bndl, c_bnln, c_sval, c_scod, c_sbal, c_sbln, c_fmt, c_stop, c_iret, c_zret, c_nret, c_aret, c_vret, c_lret, c_cpy, c_callV, c_callS, tkA, lget, lput, lkill, jpush, vsz, jcat, lins, lent, List.length_cons, List.length_nil, List.replicate, List.append_nil, List.cons_append, List.nil_append, reduceIte, Nat.reduceAdd, Nat.reduceSub, Nat.reduceEqDiff, true_and, and_true, Nat.reduceLeDiff, Nat.lt_irrefl, Nat.succ_ne_self, forall_const, ne_eq, not_true_eq_false, not_false_eq_true, false_implies, implies_true, true_implies, true_or, or_true, or_false, false_or, eq_self, Int.reduceEq, Int.reduceLT, Int.reduceLE, Int.reduceNeg, Int.reduceToNat, Int.reduceAdd, Int.reduceSub, Int.reduceMul, Int.reduceNe, and_self]
  refine ⟨⟨_, rfl⟩, ?_⟩
  -- the model
  have hQ1 := hQ.sp u1
  have hJ1 := (hJx.sc (u1.wk (fun _ _ _ q => q.c))).sc (th_sc (v := 0))
  refine i_MO_rests (Nat.le_add_right 3 3) (fun At h25 h34 => ?_)
  simp only [w_MO_rests_0, w_MO_rests_18, w_MO_rests_20, c_ic, c_lc, c_nul, c_il, c_ll, c_al, c_is, c_ls, c_as, c_inc, c_b2, c_b2n, c_b1, c_d2, c_d2n, c_dsh, c_i2l, c_l2i, c_lcm, c_dup, c_dup2, c_pop, c_j1, c_j2, c_jn, c_sw0, c_sw, c_gI, c_gL, c_gR, c_gS, c_pI, c_pZ, c_pL, c_pR, c_iald, c_ialg, c_iast, c_iasg, c_bald, c_bast, c_lald, c_last, c_aald, c_aals, c_aast, c_alen, c_bnd, c_str, c_bndl, c_bnln, c_sval, c_scod, c_sbal, c_sbln, c_fmt, c_stop, c_iret, c_zret, c_nret, c_aret, c_vret, c_lret, c_cpy, c_callV, c_callS, tkA, lget, lput, lkill, jpush, vsz, jcat, lins, lent, List.length_cons, List.length_nil, List.replicate, List.append_nil, List.cons_append, List.nil_append, reduceIte, Nat.reduceAdd, Nat.reduceSub, Nat.reduceEqDiff, true_and, and_true, Nat.reduceLeDiff, Nat.lt_irrefl, Nat.succ_ne_self, forall_const, ne_eq, not_true_eq_false, not_false_eq_true, false_implies, implies_true, true_implies, true_or, or_true, or_false, false_or, eq_self, Int.reduceEq, Int.reduceLT, Int.reduceLE, Int.reduceNeg, Int.reduceToNat, Int.reduceAdd, Int.reduceSub, Int.reduceMul, Int.reduceNe, and_self]
  refine ok_MO_isField (F := F) hQ1.1.2.2.2.2.2.2.1 ?_
  rw [if_pos z1]
  simp only [c_ic, c_lc, c_nul, c_il, c_ll, c_al, c_is, c_ls, c_as, c_inc, c_b2, c_b2n, c_b1, c_d2, c_d2n, c_dsh, c_i2l, c_l2i, c_lcm, c_dup, c_dup2, c_pop, c_j1, c_j2, c_jn, c_sw0, c_sw, c_gI, c_gL, c_gR, c_gS, c_pI, c_pZ, c_pL, c_pR, c_iald, c_ialg, c_iast, c_iasg, c_bald, c_bast, c_lald, c_last, c_aald, c_aals, c_aast, c_alen, c_bnd, c_str, c_bndl, c_bnln, c_sval, c_scod, c_sbal, c_sbln, c_fmt, c_stop, c_iret, c_zret, c_nret, c_aret, c_vret, c_lret, c_cpy, c_callV, c_callS, tkA, lget, lput, lkill, jpush, vsz, jcat, lins, lent, List.length_cons, List.length_nil, List.replicate, List.append_nil, List.cons_append, List.nil_append, reduceIte, Nat.reduceAdd, Nat.reduceSub, Nat.reduceEqDiff, true_and, and_true, Nat.reduceLeDiff, Nat.lt_irrefl, Nat.succ_ne_self, forall_const, ne_eq, not_true_eq_false, not_false_eq_true, false_implies, implies_true, true_implies, true_or, or_true, or_false, false_or, eq_self, Int.reduceEq, Int.reduceLT, Int.reduceLE, Int.reduceNeg, Int.reduceToNat, Int.reduceAdd, Int.reduceSub, Int.reduceMul, Int.reduceNe, and_self]
  refine ⟨fun w => ?_, fun w => ?_⟩
  rotate_left
  · unfold pkS
    rw [if_neg (by omega), getI_neg _ _ (by omega)]
    exact ⟨rfl, n, T, K, F, r, N, P, CL, PL, U, nt, rfl, hJ1⟩
  generalize hV : pkS (rsL R00 R01 R10 R11) i = V at *
  have hQ2 := hQ1.th (x := 0)
  have fin : ∀ τ, Fr SM (sI υ 10 0 0 0) τ → MI τ N CL → J (N, P) τ := fun τ t1 t2 => ⟨n, T, K, F, r, N, P, CL, PL, U, nt, rfl, hJ1.sd (t1.wk (fun _ _ _ q => q.sd)) t2⟩
  have my : ∀ (x y : Int) (many : Nat) (l : List Nat) (τ : jM), (x = 0 ∨ x = 1) → (y = 0 ∨ y = 1) → many ≤ 4 → Fr SM (sI υ 10 0 0 0) τ → MI τ N CL → (V = if i = -1 then ((many + ((if rstB (lwO (σ.1 10 0 34) CL) (σ.1 66 0) (σ.1 69 0) f x y = true then [(10 * x + y).toNat] else []) ++ l).length : Nat) : Int) else getI ((if rstB (lwO (σ.1 10 0 34) CL) (σ.1 66 0) (σ.1 69 0) f x y = true then [(10 * x + y).toNat] else []) ++ l) (i - many)) → (∀ (τ' : jM) (m' : Nat), m' ≤ many + 1 → Fr SM (sI υ 10 0 0 0) τ' → MI τ' N CL → (V = if i = -1 then ((m' + l.length : Nat) : Int) else getI l (i - m')) → At 34 [some (rf 10 0), some (.inl f), some (.inl i), some (.inl m'), some (.inl x), some (.inl (y + 1))] [] τ') → At 34 [some (rf 10 0), some (.inl f), some (.inl i), some (.inl many), some (.inl x), some (.inl y)] [] τ := by
    intro x y many l τ hx hy hm t1 t2 hV2 hq
    have hQ3 := hQ2.sd (t1.wk (fun _ _ _ q => q.sd)) t2
    refine h34 _ _ _ ?_
    have e1 : wr (1 - x) = 1 - x := wr_id (by omega) (by omega)
    have e2 : wr (1 - y) = 1 - y := wr_id (by omega) (by omega)
    have e3 : wr (y + 1) = y + 1 := wr_id (by omega) (by omega)
    have e4 : wr (wr (10 * x) + y) = 10 * x + y := by simp (disch := omega) only [wr_id]
    simp only [w_MO_rests_34, c_ic, c_lc, c_nul, c_il, c_ll, c_al, c_is, c_ls, c_as, c_inc, c_b2, c_b2n, c_b1, c_d2, c_d2n, c_dsh, c_i2l, c_l2i, c_lcm, c_dup, c_dup2, c_pop, c_j1, c_j2, c_jn, c_sw0, c_sw, c_gI, c_gL, c_gR, c_gS, c_pI, c_pZ, c_pL, c_pR, c_iald, c_ialg, c_iast, c_iasg, c_bald, c_bast, c_lald, c_last, c_aald, c_aals, c_aast, c_alen, c_bnd, c_str, c_bndl, c_bnln, c_sval, c_scod, c_sbal, c_sbln, c_fmt, c_stop, c_iret, c_zret, c_nret, c_aret, c_vret, c_lret, c_cpy, c_callV, c_callS, tkA, lget, lput, lkill, jpush, vsz, jcat, lins, lent, List.length_cons, List.length_nil, List.replicate, List.append_nil, List.cons_append, List.nil_append, reduceIte, Nat.reduceAdd, Nat.reduceSub, Nat.reduceEqDiff, true_and, and_true, Nat.reduceLeDiff, Nat.lt_irrefl, Nat.succ_ne_self, forall_const, ne_eq, not_true_eq_false, not_false_eq_true, false_implies, implies_true, true_implies, true_or, or_true, or_false, false_or, eq_self, Int.reduceEq, Int.reduceLT, Int.reduceLE, Int.reduceNeg, Int.reduceToNat, Int.reduceAdd, Int.reduceSub, Int.reduceMul, Int.reduceNe, and_self, e1, e2]
    refine ⟨fun w => absurd w (by omega), fun _ => ?_⟩
    refine ok_MO_gameOf (side := 0) hQ3 hf (by decide) (by omega) hy (fun v1 c1 d1 => ?_)
    have hQ4 := hQ3.sd (c1.wk (fun _ _ _ q => q.sd)) d1
    simp only [c_ic, c_lc, c_nul, c_il, c_ll, c_al, c_is, c_ls, c_as, c_inc, c_b2, c_b2n, c_b1, c_d2, c_d2n, c_dsh, c_i2l, c_l2i, c_lcm, c_dup, c_dup2, c_pop, c_j1, c_j2, c_jn, c_sw0, c_sw, c_gI, c_gL, c_gR, c_gS, c_pI, c_pZ, c_pL, c_pR, c_iald, c_ialg, c_iast, c_iasg, c_bald, c_bast, c_lald, c_last, c_aald, c_aals, c_aast, c_alen, c_bnd, c_str, c_bndl, c_bnln, c_sval, c_scod, c_sbal, c_sbln, c_fmt, c_stop, c_iret, c_zret, c_nret, c_aret, c_vret, c_lret, c_cpy, c_callV, c_callS, tkA, lget, lput, lkill, jpush, vsz, jcat, lins, lent, List.length_cons, List.length_nil, List.replicate, List.append_nil, List.cons_append, List.nil_append, reduceIte, Nat.reduceAdd, Nat.reduceSub, Nat.reduceEqDiff, true_and, and_true, Nat.reduceLeDiff, Nat.lt_irrefl, Nat.succ_ne_self, forall_const, ne_eq, not_true_eq_false, not_false_eq_true, false_implies, implies_true, true_implies, true_or, or_true, or_false, false_or, eq_self, Int.reduceEq, Int.reduceLT, Int.reduceLE, Int.reduceNeg, Int.reduceToNat, Int.reduceAdd, Int.reduceSub, Int.reduceMul, Int.reduceNe, and_self]
    refine ok_MO_gameOf (side := 0) hQ4 hf (by decide) hx hy (fun v2 c2 d2 => ?_)
    have hQ5 := hQ4.sd (c2.wk (fun _ _ _ q => q.sd)) d2
    simp only [w_MO_rests_110, c_ic, c_lc, c_nul, c_il, c_ll, c_al, c_is, c_ls, c_as, c_inc, c_b2, c_b2n, c_b1, c_d2, c_d2n, c_dsh, c_i2l, c_l2i, c_lcm, c_dup, c_dup2, c_pop, c_j1, c_j2, c_jn, c_sw0, c_sw, c_gI, c_gL, c_gR, c_gS, c_pI, c_pZ, c_pL, c_pR, c_iald, c_ialg, c_iast, c_iasg, c_bald, c_bast, c_lald, c_last, c_aald, c_aals, c_aast, c_alen, c_bnd, c_str, c_bndl, c_bnln, c_sval, c_scod, c_sbal, c_sbln, c_fmt, c_stop, c_iret, c_zret, c_nret, c_aret, c_vret, c_lret, c_cpy, c_callV, c_callS, tkA, lget, lput, lkill, jpush, vsz, jcat, lins, lent, List.length_cons, List.length_nil, List.replicate, List.append_nil, List.cons_append, List.nil_append, reduceIte, Nat.reduceAdd, Nat.reduceSub, Nat.reduceEqDiff, true_and, and_true, Nat.reduceLeDiff, Nat.lt_irrefl, Nat.succ_ne_self, forall_const, ne_eq, not_true_eq_false, not_false_eq_true, false_implies, implies_true, true_implies, true_or, or_true, or_false, false_or, eq_self, Int.reduceEq, Int.reduceLT, Int.reduceLE, Int.reduceNeg, Int.reduceToNat, Int.reduceAdd, Int.reduceSub, Int.reduceMul, Int.reduceNe, and_self, e3]
    refine ⟨fun z => ?_, fun z => ?_⟩
    · have hr : rstB (lwO (σ.1 10 0 34) CL) (σ.1 66 0) (σ.1 69 0) f x y = false := by
        unfold rstB
        simp only [z, not_true_eq_false, decide_false, Bool.false_and]
      rw [hr] at hV2
      simp only [Bool.false_eq_true, if_false, List.nil_append] at hV2
      exact hq v2 many (by omega) ((t1.tr c1).tr c2) d2 hV2
    · refine ok_MO_gameOf (side := 1) hQ5 hf (by decide) hx (by omega) (fun v3 c3 d3 => ?_)
      have hQ6 := hQ5.sd (c3.wk (fun _ _ _ q => q.sd)) d3
      simp only [c_ic, c_lc, c_nul, c_il, c_ll, c_al, c_is, c_ls, c_as, c_inc, c_b2, c_b2n, c_b1, c_d2, c_d2n, c_dsh, c_i2l, c_l2i, c_lcm, c_dup, c_dup2, c_pop, c_j1, c_j2, c_jn, c_sw0, c_sw, c_gI, c_gL, c_gR, c_gS, c_pI, c_pZ, c_pL, c_pR, c_iald, c_ialg, c_iast, c_iasg, c_bald, c_bast, c_lald, c_last, c_aald, c_aals, c_aast, c_alen, c_bnd, c_str, c_bndl, c_bnln, c_sval, c_scod, c_sbal, c_sbln, c_fmt, c_stop, c_iret, c_zret, c_nret, c_aret, c_vret, c_lret, c_cpy, c_callV, c_callS, tkA, lget, lput, lkill, jpush, vsz, jcat, lins, lent, List.length_cons, List.length_nil, List.replicate, List.append_nil, List.cons_append, List.nil_append, reduceIte, Nat.reduceAdd, Nat.reduceSub, Nat.reduceEqDiff, true_and, and_true, Nat.reduceLeDiff, Nat.lt_irrefl, Nat.succ_ne_self, forall_const, ne_eq, not_true_eq_false, not_false_eq_true, false_implies, implies_true, true_implies, true_or, or_true, or_false, false_or, eq_self, Int.reduceEq, Int.reduceLT, Int.reduceLE, Int.reduceNeg, Int.reduceToNat, Int.reduceAdd, Int.reduceSub, Int.reduceMul, Int.reduceNe, and_self]
      refine ok_MO_gameOf (side := 1) hQ6 hf (by decide) hx hy (fun v4 c4 d4 => ?_)
      have t4 : Fr SM (sI υ 10 0 0 0) v4 := (((t1.tr c1).tr c2).tr c3).tr c4
      simp only [w_MO_rests_93, w_MO_rests_107, w_MO_rests_110, c_ic, c_lc, c_nul, c_il, c_ll, c_al, c_is, c_ls, c_as, c_inc, c_b2, c_b2n, c_b1, c_d2, c_d2n, c_dsh, c_i2l, c_l2i, c_lcm, c_dup, c_dup2, c_pop, c_j1, c_j2, c_jn, c_sw0, c_sw, c_gI, c_gL, c_gR, c_gS, c_pI, c_pZ, c_pL, c_pR, c_iald, c_ialg, c_iast, c_iasg, c_bald, c_bast, c_lald, c_last, c_aald, c_aals, c_aast, c_alen, c_bnd, c_str, c_bndl, c_bnln, c_sval, c_scod, c_sbal, c_sbln, c_fmt, c_stop, c_iret, c_zret, c_nret, c_aret, c_vret, c_lret, c_cpy, c_callV, c_callS, tkA, lget, lput, lkill, jpush, vsz, jcat, lins, lent, List.length_cons, List.length_nil, List.replicate, List.append_nil, List.cons_append, List.nil_append, reduceIte, Nat.reduceAdd, Nat.reduceSub, Nat.reduceEqDiff, true_and, and_true, Nat.reduceLeDiff, Nat.lt_irrefl, Nat.succ_ne_self, forall_const, ne_eq, not_true_eq_false, not_false_eq_true, false_implies, implies_true, true_implies, true_or, or_true, or_false, false_or, eq_self, Int.reduceEq, Int.reduceLT, Int.reduceLE, Int.reduceNeg, Int.reduceToNat, Int.reduceAdd, Int.reduceSub, Int.reduceMul, Int.reduceNe, and_self, e3, e4, inc_nat (show many ≤ 100000 by omega)]
      refine ⟨fun z2 => ?_, fun z2 => ?_⟩
      · have hr : rstB (lwO (σ.1 10 0 34) CL) (σ.1 66 0) (σ.1 69 0) f x y = true := by
          unfold rstB
          rw [decide_eq_true z, decide_eq_true (show ¬ gnS (lwO (σ.1 10 0 34) CL) (σ.1 66 0) (σ.1 69 0) f x y 1 < gnS (lwO (σ.1 10 0 34) CL) (σ.1 66 0) (σ.1 69 0) f x (1 - y) 1 by omega)]
          rfl
        rw [hr] at hV2
        simp only [if_true, List.cons_append, List.nil_append, List.length_cons] at hV2
        refine ⟨fun z3 => ?_, fun z3 => ?_⟩
        · refine hq v4 (many + 1) (by omega) t4 d4 ?_
          by_cases y0 : i = -1
          · rw [if_pos y0] at hV2 ⊢
            rw [hV2]; omega
          · rw [if_neg y0] at hV2 ⊢
            unfold getI at hV2
            rw [if_neg (by omega)] at hV2
            rw [hV2, show i - ((many + 1 : Nat) : Int) = i - many - 1 by omega]
        · rw [if_neg (by omega)] at hV2
          unfold getI at hV2
          rw [if_pos (by omega)] at hV2
          refine ⟨?_, fin v4 t4 d4⟩
          rw [hV2, Int.toNat_of_nonneg (by omega)]
      · have hr : rstB (lwO (σ.1 10 0 34) CL) (σ.1 66 0) (σ.1 69 0) f x y = false := by
          unfold rstB
          rw [decide_eq_false (show ¬ ¬ gnS (lwO (σ.1 10 0 34) CL) (σ.1 66 0) (σ.1 69 0) f x y 1 < gnS (lwO (σ.1 10 0 34) CL) (σ.1 66 0) (σ.1 69 0) f x (1 - y) 1 by omega)]
          exact Bool.and_false _
        rw [hr] at hV2
        simp only [Bool.false_eq_true, if_false, List.nil_append] at hV2
        exact hq v4 many (by omega) t4 d4 hV2
  have mx : ∀ (x : Int) (many : Nat) (τ : jM) (y0 : Option jV) (l : List Nat), (x = 0 ∨ x = 1) → many ≤ 2 → Fr SM (sI υ 10 0 0 0) τ → MI τ N CL → (V = if i = -1 then ((many + ((if rstB (lwO (σ.1 10 0 34) CL) (σ.1 66 0) (σ.1 69 0) f x 0 = true then [(10 * x + 0).toNat] else []) ++ ((if rstB (lwO (σ.1 10 0 34) CL) (σ.1 66 0) (σ.1 69 0) f x 1 = true then [(10 * x + 1).toNat] else []) ++ l)).length : Nat) : Int) else getI ((if rstB (lwO (σ.1 10 0 34) CL) (σ.1 66 0) (σ.1 69 0) f x 0 = true then [(10 * x + 0).toNat] else []) ++ ((if rstB (lwO (σ.1 10 0 34) CL) (σ.1 66 0) (σ.1 69 0) f x 1 = true then [(10 * x + 1).toNat] else []) ++ l)) (i - many)) → (∀ (τ' : jM) (m' : Nat), m' ≤ many + 2 → Fr SM (sI υ 10 0 0 0) τ' → MI τ' N CL → (V = if i = -1 then ((m' + l.length : Nat) : Int) else getI l (i - m')) → At 25 [some (rf 10 0), some (.inl f), some (.inl i), some (.inl m'), some (.inl (x + 1)), some (.inl 2)] [] τ') → At 25 [some (rf 10 0), some (.inl f), some (.inl i), some (.inl many), some (.inl x), y0] [] τ := by
    intro x many τ y0 l hx hm t1 t2 hV2 hq
    refine h25 _ _ _ ?_
    simp only [w_MO_rests_25, c_ic, c_lc, c_nul, c_il, c_ll, c_al, c_is, c_ls, c_as, c_inc, c_b2, c_b2n, c_b1, c_d2, c_d2n, c_dsh, c_i2l, c_l2i, c_lcm, c_dup, c_dup2, c_pop, c_j1, c_j2, c_jn, c_sw0, c_sw, c_gI, c_gL, c_gR, c_gS, c_pI, c_pZ, c_pL, c_pR, c_iald, c_ialg, c_iast, c_iasg, c_bald, c_bast, c_lald, c_last, c_aald, c_aals, c_aast, c_alen, c_bnd, c_str, c_bndl, c_bnln, c_sval, c_scod, c_sbal, c_sbln, c_fmt, c_stop, c_iret, c_zret, c_nret, c_aret, c_vret, c_lret, c_cpy, c_callV, c_callS, tkA, lget, lput, lkill, jpush, vsz, jcat, lins, lent, List.length_cons, List.length_nil, List.replicate, List.append_nil, List.cons_append, List.nil_append, reduceIte, Nat.reduceAdd, Nat.reduceSub, Nat.reduceEqDiff, true_and, and_true, Nat.reduceLeDiff, Nat.lt_irrefl, Nat.succ_ne_self, forall_const, ne_eq, not_true_eq_false, not_false_eq_true, false_implies, implies_true, true_implies, true_or, or_true, or_false, false_or, eq_self, Int.reduceEq, Int.reduceLT, Int.reduceLE, Int.reduceNeg, Int.reduceToNat, Int.reduceAdd, Int.reduceSub, Int.reduceMul, Int.reduceNe, and_self]
    refine ⟨fun w => absurd w (by omega), fun _ => ?_⟩
    refine my x 0 many _ τ hx (Or.inl rfl) (by omega) t1 t2 hV2 (fun τ1 m1 k1 s1 s2 s3 => ?_)
    refine my x 1 m1 _ τ1 hx (Or.inr rfl) (by omega) s1 s2 s3 (fun τ2 m2 k2 s1 s2 s3 => ?_)
    refine h34 _ _ _ ?_
    have e1 : wr (x + 1) = x + 1 := wr_id (by omega) (by omega)
    simp only [w_MO_rests_34, w_MO_rests_116, c_ic, c_lc, c_nul, c_il, c_ll, c_al, c_is, c_ls, c_as, c_inc, c_b2, c_b2n, c_b1, c_d2, c_d2n, c_dsh, c_i2l, c_l2i, c_lcm, c_dup, c_dup2, c_pop, c_j1, c_j2, c_jn, c_sw0, c_sw, c_gI, c_gL, c_gR, c_gS, c_pI, c_pZ, c_pL, c_pR, c_iald, c_ialg, c_iast, c_iasg, c_bald, c_bast, c_lald, c_last, c_aald, c_aals, c_aast, c_alen, c_bnd, c_str, c_bndl, c_bnln, c_sval, c_scod, c_sbal, c_sbln, c_fmt, c_stop, c_iret, c_zret, c_nret, c_aret, c_vret, c_lret, c_cpy, c_callV, c_callS, tkA, lget, lput, lkill, jpush, vsz, jcat, lins, lent, List.length_cons, List.length_nil, List.replicate, List.append_nil, List.cons_append, List.nil_append, reduceIte, Nat.reduceAdd, Nat.reduceSub, Nat.reduceEqDiff, true_and, and_true, Nat.reduceLeDiff, Nat.lt_irrefl, Nat.succ_ne_self, forall_const, ne_eq, not_true_eq_false, not_false_eq_true, false_implies, implies_true, true_implies, true_or, or_true, or_false, false_or, eq_self, Int.reduceEq, Int.reduceLT, Int.reduceLE, Int.reduceNeg, Int.reduceToNat, Int.reduceAdd, Int.reduceSub, Int.reduceMul, Int.reduceNe, and_self, e1]
    exact hq τ2 m2 (by omega) s1 s2 s3
  refine mx 0 0 _ none ((if R10 = true then [10] else []) ++ (if R11 = true then [11] else [])) (Or.inl rfl) (by decide) Fr.rf hQ2.2.2.1 ?_ (fun τ1 m1 k1 s1 s2 s3 => ?_)
  · rw [← hV, hR00, hR01]
    unfold pkS rsL
    rw [show i - ((0 : Nat) : Int) = i by omega, Nat.zero_add]
    rfl
  · refine mx 1 m1 τ1 _ [] (Or.inr rfl) k1 s1 s2 ?_ (fun τ2 m2 k2 s1 s2 s3 => ?_)
    · rw [hR10, hR11, List.append_nil]
      exact s3
    · refine h25 _ _ _ ?_
      simp only [w_MO_rests_25, w_MO_rests_122, w_MO_rests_131, w_MO_rests_132, c_ic, c_lc, c_nul, c_il, c_ll, c_al, c_is, c_ls, c_as, c_inc, c_b2, c_b2n, c_b1, c_d2, c_d2n, c_dsh, c_i2l, c_l2i, c_lcm, c_dup, c_dup2, c_pop, c_j1, c_j2, c_jn, c_sw0, c_sw, c_gI, c_gL, c_gR, c_gS, c_pI, c_pZ, c_pL, c_pR, c_iald, c_ialg, c_iast, c_iasg, c_bald, c_bast, c_lald, c_last, c_aald, c_aals, c_aast, c_alen, c_bnd, c_str, c_bndl, c_bnln, c_sval, c_scod, c_sbal, c_sbln, c_fmt, c_stop, c_iret, c_zret, c_nret, c_aret, c_vret, c_lret, c_cpy, c_callV, c_callS, tkA, lget, lput, lkill, jpush, vsz, jcat, lins, lent, List.length_cons, List.length_nil, List.replicate, List.append_nil, List.cons_append, List.nil_append, reduceIte, Nat.reduceAdd, Nat.reduceSub, Nat.reduceEqDiff, true_and, and_true, Nat.reduceLeDiff, Nat.lt_irrefl, Nat.succ_ne_self, forall_const, ne_eq, not_true_eq_false, not_false_eq_true, false_implies, implies_true, true_implies, true_or, or_true, or_false, false_or, eq_self, Int.reduceEq, Int.reduceLT, Int.reduceLE, Int.reduceNeg, Int.reduceToNat, Int.reduceAdd, Int.reduceSub, Int.reduceMul, Int.reduceNe, and_self]
      refine ⟨fun z => ?_, fun z => ?_⟩
      · rw [if_neg z] at s3
        rw [s3]
        exact ⟨rfl, fin τ2 s1 s2⟩
      · rw [if_pos (Classical.not_not.mp z)] at s3
        rw [s3]
        exact ⟨rfl, fin τ2 s1 s2⟩
