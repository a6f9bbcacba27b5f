/-! ===== 97 campaigns: step, run ===== -/
theorem ok_LB_campaignOf {σ : jM} {Φ : jPh} {d P : Nat} {PL : Nat → List (Int × Int)} {c : Int} (h : JP σ P PL) (h1 : ∀ i : Nat, c = i → i < P → Φ (some (rf 1 i)) σ) (h0 : ¬ (0 ≤ c ∧ c < P) → Φ (some (.inr (.inr (0, none)))) σ) : Ct (d + 1) M_LB_campaignOf [rf 9 0, .inl c] σ Φ := by
  obtain ⟨p4, p1, -, -, p5⟩ := h
  refine i_LB_campaignOf (Nat.le_refl 2) ?_
  simp only [w_LB_campaignOf_31, w_LB_campaignOf_30, w_LB_campaignOf_0, c_ic, c_lc, c_nul, c_il, c_ll, c_al, c_is, c_ls, c_as, c_inc, c_b2, c_b2n, c_b1, c_d2, c_d2n, c_dsh, c_i2l, c_l2i, c_lcm, c_dup, c_dup2, c_pop, c_j1, c_j2, c_jn, c_sw0, c_sw, c_gI, c_gL, c_gR, c_gS, c_pI, c_pZ, c_pL, c_pR, c_iald, c_ialg, c_iast, c_iasg, c_bald, c_bast, c_lald, c_last, c_aald, c_aals, c_aast, c_alen, c_bnd, c_str, c_bndl, c_bnln, c_sval, c_scod, c_sbal, c_sbln, c_fmt, c_stop, c_iret, c_zret, c_nret, c_aret, c_vret, c_lret, c_cpy, c_callV, c_callS, tkA, lget, lput, lkill, jpush, vsz, jcat, lins, lent, List.length_cons, List.length_nil, List.replicate, List.append_nil, List.cons_append, List.nil_append, reduceIte, Nat.reduceAdd, Nat.reduceSub, Nat.reduceEqDiff, true_and, and_true, Nat.reduceLeDiff, Nat.lt_irrefl, Nat.succ_ne_self, forall_const, ne_eq, not_true_eq_false, not_false_eq_true, false_implies, implies_true, true_implies, true_or, or_true, or_false, false_or, eq_self, Int.reduceEq, Int.reduceLT, Int.reduceLE, Int.reduceNeg, Int.reduceToNat, Int.reduceAdd, Int.reduceSub, Int.reduceMul, Int.reduceNe, and_self, p1]
  have l50 : ((jln 50 0 : Nat) : Int) = 4 := rfl
  refine ⟨fun z => h0 (by omega), fun z => ⟨fun z2 => h0 (by omega), fun z2 => ⟨by decide, fun z3 => absurd z3 (by omega), fun z3 => ⟨by omega, ?_⟩⟩⟩⟩
  rw [(p5 c.toNat (by omega)).1]
  exact h1 c.toNat (by omega) (by omega)
theorem st_a {σ : jM} {d : Nat} {k : jWp} {M : jMT} {c : Int} {t : jL} (h : Ct d M [rf 10 0, .inl c] (sI σ 10 0 0 0) (fun r τ => k (some (rf 10 0) :: some (.inl c) :: t) (jpush r []) τ)) : (c_al 0 (c_ic 0 (c_pI 10 0 (c_al 0 (c_il 1 (c_callV d M 10 1 k)))))) (some (rf 10 0) :: some (.inl c) :: t) [] σ := by
  simp only [c_ic, c_lc, c_nul, c_il, c_ll, c_al, c_is, c_ls, c_as, c_inc, c_b2, c_b2n, c_b1, c_d2, c_d2n, c_dsh, c_i2l, c_l2i, c_lcm, c_dup, c_dup2, c_pop, c_j1, c_j2, c_jn, c_sw0, c_sw, c_gI, c_gL, c_gR, c_gS, c_pI, c_pZ, c_pL, c_pR, c_iald, c_ialg, c_iast, c_iasg, c_bald, c_bast, c_lald, c_last, c_aald, c_aals, c_aast, c_alen, c_bnd, c_str, c_bndl, c_bnln, c_sval, c_scod, c_sbal, c_sbln, c_fmt, c_stop, c_iret, c_zret, c_nret, c_aret, c_vret, c_lret, c_cpy, c_callV, c_callS, tkA, lget, lput, lkill, jpush, vsz, jcat, lins, lent, List.length_cons, List.length_nil, List.replicate, List.append_nil, List.cons_append, List.nil_append, reduceIte, Nat.reduceAdd, Nat.reduceSub, Nat.reduceEqDiff, true_and, and_true, Nat.reduceLeDiff, Nat.lt_irrefl, Nat.succ_ne_self, forall_const, ne_eq, not_true_eq_false, not_false_eq_true, false_implies, implies_true, true_implies, true_or, or_true, or_false, false_or, eq_self, Int.reduceEq, Int.reduceLT, Int.reduceLE, Int.reduceNeg, Int.reduceToNat, Int.reduceAdd, Int.reduceSub, Int.reduceMul, Int.reduceNe, and_self]
  exact h
theorem mo_step0 {σ : jM} {Φ : jPh} {d P : Nat} {PL : Nat → List (Int × Int)} {c i w : Int} (hP : JP σ P PL) (hb : ¬ ((0 ≤ c ∧ c < P) ∧ (0 ≤ i ∧ i < (PL c.toNat).length) ∧ 0 ≤ w ∧ w ≤ 1)) (h : Φ (some (.inl (-1000000))) (sI σ 10 0 0 0)) : Ct (d + 2) M_MO_step [rf 10 0, .inl c, .inl i, .inl w] σ Φ := by
  obtain ⟨p4, p1, p2, -, p5⟩ := id hP
  refine i_MO_step (Nat.le_refl 4) ?_
  unfold w_MO_step_0
  refine st_a (ok_MO_isPlan (P := P) p2 ?_)
  simp only [w_MO_step_59, w_MO_step_62, c_ic, c_lc, c_nul, c_il, c_ll, c_al, c_is, c_ls, c_as, c_inc, c_b2, c_b2n, c_b1, c_d2, c_d2n, c_dsh, c_i2l, c_l2i, c_lcm, c_dup, c_dup2, c_pop, c_j1, c_j2, c_jn, c_sw0, c_sw, c_gI, c_gL, c_gR, c_gS, c_pI, c_pZ, c_pL, c_pR, c_iald, c_ialg, c_iast, c_iasg, c_bald, c_bast, c_lald, c_last, c_aald, c_aals, c_aast, c_alen, c_bnd, c_str, c_bndl, c_bnln, c_sval, c_scod, c_sbal, c_sbln, c_fmt, c_stop, c_iret, c_zret, c_nret, c_aret, c_vret, c_lret, c_cpy, c_callV, c_callS, tkA, lget, lput, lkill, jpush, vsz, jcat, lins, lent, List.length_cons, List.length_nil, List.replicate, List.append_nil, List.cons_append, List.nil_append, reduceIte, Nat.reduceAdd, Nat.reduceSub, Nat.reduceEqDiff, true_and, and_true, Nat.reduceLeDiff, Nat.lt_irrefl, Nat.succ_ne_self, forall_const, ne_eq, not_true_eq_false, not_false_eq_true, false_implies, implies_true, true_implies, true_or, or_true, or_false, false_or, eq_self, Int.reduceEq, Int.reduceLT, Int.reduceLE, Int.reduceNeg, Int.reduceToNat, Int.reduceAdd, Int.reduceSub, Int.reduceMul, Int.reduceNe, and_self, g_sI, g_sI2, g_sL1, g_sL, g_sL2, g_sR1, g_sR2, g_sR, g_sA, g_sA2, and_false, false_and, and_self, if_false, if_true]
  refine ⟨fun _ => h, fun z => ?_⟩
  have z1 : 0 ≤ c ∧ c < P := Classical.byContradiction (fun q => z (if_neg q))
  obtain ⟨c, rfl⟩ := Int.eq_ofNat_of_zero_le z1.1
  obtain ⟨-, g2, g3, -⟩ := p5 c (by omega)
  have l16 := g2.2.1
  rw [Int.toNat_natCast] at hb ⊢
  rw [g3, wr_id (by omega) (by omega)]
  refine ⟨⟨by omega, by omega⟩, ?_⟩
  refine ok_MO_isIn ?_
  simp only [c_ic, c_lc, c_nul, c_il, c_ll, c_al, c_is, c_ls, c_as, c_inc, c_b2, c_b2n, c_b1, c_d2, c_d2n, c_dsh, c_i2l, c_l2i, c_lcm, c_dup, c_dup2, c_pop, c_j1, c_j2, c_jn, c_sw0, c_sw, c_gI, c_gL, c_gR, c_gS, c_pI, c_pZ, c_pL, c_pR, c_iald, c_ialg, c_iast, c_iasg, c_bald, c_bast, c_lald, c_last, c_aald, c_aals, c_aast, c_alen, c_bnd, c_str, c_bndl, c_bnln, c_sval, c_scod, c_sbal, c_sbln, c_fmt, c_stop, c_iret, c_zret, c_nret, c_aret, c_vret, c_lret, c_cpy, c_callV, c_callS, tkA, lget, lput, lkill, jpush, vsz, jcat, lins, lent, List.length_cons, List.length_nil, List.replicate, List.append_nil, List.cons_append, List.nil_append, reduceIte, Nat.reduceAdd, Nat.reduceSub, Nat.reduceEqDiff, true_and, and_true, Nat.reduceLeDiff, Nat.lt_irrefl, Nat.succ_ne_self, forall_const, ne_eq, not_true_eq_false, not_false_eq_true, false_implies, implies_true, true_implies, true_or, or_true, or_false, false_or, eq_self, Int.reduceEq, Int.reduceLT, Int.reduceLE, Int.reduceNeg, Int.reduceToNat, Int.reduceAdd, Int.reduceSub, Int.reduceMul, Int.reduceNe, and_self]
  refine ⟨fun _ => h, fun z => ?_⟩
  have z2 : 0 ≤ i ∧ i ≤ ((PL c).length : Int) - 1 := Classical.byContradiction (fun q => z (if_neg q))
  refine ok_MO_isIn ?_
  rw [if_neg (by omega)]
  simp only [c_ic, c_lc, c_nul, c_il, c_ll, c_al, c_is, c_ls, c_as, c_inc, c_b2, c_b2n, c_b1, c_d2, c_d2n, c_dsh, c_i2l, c_l2i, c_lcm, c_dup, c_dup2, c_pop, c_j1, c_j2, c_jn, c_sw0, c_sw, c_gI, c_gL, c_gR, c_gS, c_pI, c_pZ, c_pL, c_pR, c_iald, c_ialg, c_iast, c_iasg, c_bald, c_bast, c_lald, c_last, c_aald, c_aals, c_aast, c_alen, c_bnd, c_str, c_bndl, c_bnln, c_sval, c_scod, c_sbal, c_sbln, c_fmt, c_stop, c_iret, c_zret, c_nret, c_aret, c_vret, c_lret, c_cpy, c_callV, c_callS, tkA, lget, lput, lkill, jpush, vsz, jcat, lins, lent, List.length_cons, List.length_nil, List.replicate, List.append_nil, List.cons_append, List.nil_append, reduceIte, Nat.reduceAdd, Nat.reduceSub, Nat.reduceEqDiff, true_and, and_true, Nat.reduceLeDiff, Nat.lt_irrefl, Nat.succ_ne_self, forall_const, ne_eq, not_true_eq_false, not_false_eq_true, false_implies, implies_true, true_implies, true_or, or_true, or_false, false_or, eq_self, Int.reduceEq, Int.reduceLT, Int.reduceLE, Int.reduceNeg, Int.reduceToNat, Int.reduceAdd, Int.reduceSub, Int.reduceMul, Int.reduceNe, and_self]
  exact h
theorem mo_step1 {σ : jM} {Φ : jPh} {d P c i e : Nat} {PL : Nat → List (Int × Int)} (hP : JP σ P PL) (hc : c < P) (hi : i < (PL c).length) (he : e ≤ 1) (h : Φ (some (.inl (σ.1 67 0 (32 * c + 2 * i + e)))) (sI σ 10 0 0 0)) : Ct (d + 2) M_MO_step [rf 10 0, .inl c, .inl i, .inl e] σ Φ := by
  obtain ⟨p4, p1, p2, -, p5⟩ := id hP
  obtain ⟨-, g2, g3, -⟩ := p5 c hc
  have l16 := g2.2.1
  refine i_MO_step (Nat.le_refl 4) ?_
  show w_MO_step_0 Φ (d + 1) [some (rf 10 0), some (.inl (c : Int)), some (.inl (i : Int)), some (.inl (e : Int))] [] σ
  unfold w_MO_step_0
  refine st_a (ok_MO_isPlan (P := P) p2 ?_)
  rw [if_pos (by omega)]
  simp only [w_MO_step_62, c_ic, c_lc, c_nul, c_il, c_ll, c_al, c_is, c_ls, c_as, c_inc, c_b2, c_b2n, c_b1, c_d2, c_d2n, c_dsh, c_i2l, c_l2i, c_lcm, c_dup, c_dup2, c_pop, c_j1, c_j2, c_jn, c_sw0, c_sw, c_gI, c_gL, c_gR, c_gS, c_pI, c_pZ, c_pL, c_pR, c_iald, c_ialg, c_iast, c_iasg, c_bald, c_bast, c_lald, c_last, c_aald, c_aals, c_aast, c_alen, c_bnd, c_str, c_bndl, c_bnln, c_sval, c_scod, c_sbal, c_sbln, c_fmt, c_stop, c_iret, c_zret, c_nret, c_aret, c_vret, c_lret, c_cpy, c_callV, c_callS, tkA, lget, lput, lkill, jpush, vsz, jcat, lins, lent, List.length_cons, List.length_nil, List.replicate, List.append_nil, List.cons_append, List.nil_append, reduceIte, Nat.reduceAdd, Nat.reduceSub, Nat.reduceEqDiff, true_and, and_true, Nat.reduceLeDiff, Nat.lt_irrefl, Nat.succ_ne_self, forall_const, ne_eq, not_true_eq_false, not_false_eq_true, false_implies, implies_true, true_implies, true_or, or_true, or_false, false_or, eq_self, Int.reduceEq, Int.reduceLT, Int.reduceLE, Int.reduceNeg, Int.reduceToNat, Int.reduceAdd, Int.reduceSub, Int.reduceMul, Int.reduceNe, and_self, g_sI, g_sI2, g_sL1, g_sL, g_sL2, g_sR1, g_sR2, g_sR, g_sA, g_sA2, and_false, false_and, and_self, if_false, if_true, Int.toNat_natCast, g3]
  rw [wr_id (by omega) (by omega)]
  refine ⟨⟨by omega, by omega⟩, ?_⟩
  refine ok_MO_isIn ?_
  rw [if_pos (by omega)]
  simp only [c_ic, c_lc, c_nul, c_il, c_ll, c_al, c_is, c_ls, c_as, c_inc, c_b2, c_b2n, c_b1, c_d2, c_d2n, c_dsh, c_i2l, c_l2i, c_lcm, c_dup, c_dup2, c_pop, c_j1, c_j2, c_jn, c_sw0, c_sw, c_gI, c_gL, c_gR, c_gS, c_pI, c_pZ, c_pL, c_pR, c_iald, c_ialg, c_iast, c_iasg, c_bald, c_bast, c_lald, c_last, c_aald, c_aals, c_aast, c_alen, c_bnd, c_str, c_bndl, c_bnln, c_sval, c_scod, c_sbal, c_sbln, c_fmt, c_stop, c_iret, c_zret, c_nret, c_aret, c_vret, c_lret, c_cpy, c_callV, c_callS, tkA, lget, lput, lkill, jpush, vsz, jcat, lins, lent, List.length_cons, List.length_nil, List.replicate, List.append_nil, List.cons_append, List.nil_append, reduceIte, Nat.reduceAdd, Nat.reduceSub, Nat.reduceEqDiff, true_and, and_true, Nat.reduceLeDiff, Nat.lt_irrefl, Nat.succ_ne_self, forall_const, ne_eq, not_true_eq_false, not_false_eq_true, false_implies, implies_true, true_implies, true_or, or_true, or_false, false_or, eq_self, Int.reduceEq, Int.reduceLT, Int.reduceLE, Int.reduceNeg, Int.reduceToNat, Int.reduceAdd, Int.reduceSub, Int.reduceMul, Int.reduceNe, and_self]
  refine ok_MO_isIn ?_
  rw [if_pos (by omega)]
  have e1 : wr (wr (2 * wr (wr (16 * (c : Int)) + (i : Int))) + (e : Int)) = ((32 * c + 2 * i + e : Nat) : Int) := by simp (disch := omega) only [wr_id]; omega
  simp only [c_ic, c_lc, c_nul, c_il, c_ll, c_al, c_is, c_ls, c_as, c_inc, c_b2, c_b2n, c_b1, c_d2, c_d2n, c_dsh, c_i2l, c_l2i, c_lcm, c_dup, c_dup2, c_pop, c_j1, c_j2, c_jn, c_sw0, c_sw, c_gI, c_gL, c_gR, c_gS, c_pI, c_pZ, c_pL, c_pR, c_iald, c_ialg, c_iast, c_iasg, c_bald, c_bast, c_lald, c_last, c_aald, c_aals, c_aast, c_alen, c_bnd, c_str, c_bndl, c_bnln, c_sval, c_scod, c_sbal, c_sbln, c_fmt, c_stop, c_iret, c_zret, c_nret, c_aret, c_vret, c_lret, c_cpy, c_callV, c_callS, tkA, lget, lput, lkill, jpush, vsz, jcat, lins, lent, List.length_cons, List.length_nil, List.replicate, List.append_nil, List.cons_append, List.nil_append, reduceIte, Nat.reduceAdd, Nat.reduceSub, Nat.reduceEqDiff, true_and, and_true, Nat.reduceLeDiff, Nat.lt_irrefl, Nat.succ_ne_self, forall_const, ne_eq, not_true_eq_false, not_false_eq_true, false_implies, implies_true, true_implies, true_or, or_true, or_false, false_or, eq_self, Int.reduceEq, Int.reduceLT, Int.reduceLE, Int.reduceNeg, Int.reduceToNat, Int.reduceAdd, Int.reduceSub, Int.reduceMul, Int.reduceNe, and_self, g_sI, g_sI2, g_sL1, g_sL, g_sL2, g_sR1, g_sR2, g_sR, g_sA, g_sA2, and_false, false_and, and_self, if_false, if_true]
  rw [e1, Int.toNat_natCast]
  exact ⟨⟨by omega, by omega⟩, h⟩
theorem pr_step {c i w : Int} : Pr M_LB_step M_MO_step [.inl c, .inl i, .inl w] := by
  intro σ q hJ
  obtain ⟨n, T, K, F, r, N, P, CL, PL, U, nt, rfl, hJx⟩ := id hJ
  obtain ⟨hT, hR, hW, hA, hI, hK, hM, hP, hN, hG⟩ := id hJx
  obtain ⟨p4, p1, p2, -, p5⟩ := id hP
  have bad : ¬ ((0 ≤ c ∧ c < P) ∧ (0 ≤ i ∧ i < (PL c.toNat).length) ∧ 0 ≤ w ∧ w ≤ 1) → Ct 60 M_MO_step [rf 10 0, .inl c, .inl i, .inl w] σ (fun y τ' => y = some (.inl (-1000000)) ∧ J (N, P) τ') := fun hb => mo_step0 hP hb ⟨rfl, hJ.sc th_sc⟩
  refine i_LB_step (Nat.le_succ 4) ?_
  simp only [w_LB_step_0, w_LB_step_25, c_ic, c_lc, c_nul, c_il, c_ll, c_al, c_is, c_ls, c_as, c_inc, c_b2, c_b2n, c_b1, c_d2, c_d2n, c_dsh, c_i2l, c_l2i, c_lcm, c_dup, c_dup2, c_pop, c_j1, c_j2, c_jn, c_sw0, c_sw, c_gI, c_gL, c_gR, c_gS, c_pI, c_pZ, c_pL, c_pR, c_iald, c_ialg, c_iast, c_iasg, c_bald, c_bast, c_lald, c_last, c_aald, c_aals, c_aast, c_alen, c_bnd, c_str, c_bndl, c_bnln, c_sval, c_scod, c_sbal, c_sbln, c_fmt, c_stop, c_iret, c_zret, c_nret, c_aret, c_vret, c_lret, c_cpy, c_callV, c_callS, tkA, lget, lput, lkill, jpush, vsz, jcat, lins, lent, List.length_cons, List.length_nil, List.replicate, List.append_nil, List.cons_append, List.nil_append, reduceIte, Nat.reduceAdd, Nat.reduceSub, Nat.reduceEqDiff, true_and, and_true, Nat.reduceLeDiff, Nat.lt_irrefl, Nat.succ_ne_self, forall_const, ne_eq, not_true_eq_false, not_false_eq_true, false_implies, implies_true, true_implies, true_or, or_true, or_false, false_or, eq_self, Int.reduceEq, Int.reduceLT, Int.reduceLE, Int.reduceNeg, Int.reduceToNat, Int.reduceAdd, Int.reduceSub, Int.reduceMul, Int.reduceNe, and_self]
  refine ok_LB_campaignOf hP (fun c' hc hc2 => ?_) (fun hn => ?_)
  · subst hc
    obtain ⟨-, g2, g3, g4, -⟩ := p5 c' hc2
    have l16 := g2.2.1
    simp only [c_ic, c_lc, c_nul, c_il, c_ll, c_al, c_is, c_ls, c_as, c_inc, c_b2, c_b2n, c_b1, c_d2, c_d2n, c_dsh, c_i2l, c_l2i, c_lcm, c_dup, c_dup2, c_pop, c_j1, c_j2, c_jn, c_sw0, c_sw, c_gI, c_gL, c_gR, c_gS, c_pI, c_pZ, c_pL, c_pR, c_iald, c_ialg, c_iast, c_iasg, c_bald, c_bast, c_lald, c_last, c_aald, c_aals, c_aast, c_alen, c_bnd, c_str, c_bndl, c_bnln, c_sval, c_scod, c_sbal, c_sbln, c_fmt, c_stop, c_iret, c_zret, c_nret, c_aret, c_vret, c_lret, c_cpy, c_callV, c_callS, tkA, lget, lput, lkill, jpush, vsz, jcat, lins, lent, List.length_cons, List.length_nil, List.replicate, List.append_nil, List.cons_append, List.nil_append, reduceIte, Nat.reduceAdd, Nat.reduceSub, Nat.reduceEqDiff, true_and, and_true, Nat.reduceLeDiff, Nat.lt_irrefl, Nat.succ_ne_self, forall_const, ne_eq, not_true_eq_false, not_false_eq_true, false_implies, implies_true, true_implies, true_or, or_true, or_false, false_or, eq_self, Int.reduceEq, Int.reduceLT, Int.reduceLE, Int.reduceNeg, Int.reduceToNat, Int.reduceAdd, Int.reduceSub, Int.reduceMul, Int.reduceNe, and_self, g2.1]
    refine ⟨fun z => ⟨⟨_, rfl⟩, bad (by omega)⟩, fun z => ⟨fun z2 => ?_, fun z2 => ⟨⟨_, rfl⟩, bad (by rw [Int.toNat_natCast]; omega)⟩⟩⟩
    obtain ⟨i, rfl⟩ := Int.eq_ofNat_of_zero_le (show 0 ≤ i by omega)
    have c1 := g2.2.2 i (by omega)
    have m1 := g4 i (by omega)
    simp only [w_LB_step_28, w_LB_step_56, w_LB_step_64, w_LB_step_72, c_ic, c_lc, c_nul, c_il, c_ll, c_al, c_is, c_ls, c_as, c_inc, c_b2, c_b2n, c_b1, c_d2, c_d2n, c_dsh, c_i2l, c_l2i, c_lcm, c_dup, c_dup2, c_pop, c_j1, c_j2, c_jn, c_sw0, c_sw, c_gI, c_gL, c_gR, c_gS, c_pI, c_pZ, c_pL, c_pR, c_iald, c_ialg, c_iast, c_iasg, c_bald, c_bast, c_lald, c_last, c_aald, c_aals, c_aast, c_alen, c_bnd, c_str, c_bndl, c_bnln, c_sval, c_scod, c_sbal, c_sbln, c_fmt, c_stop, c_iret, c_zret, c_nret, c_aret, c_vret, c_lret, c_cpy, c_callV, c_callS, tkA, lget, lput, lkill, jpush, vsz, jcat, lins, lent, List.length_cons, List.length_nil, List.replicate, List.append_nil, List.cons_append, List.nil_append, reduceIte, Nat.reduceAdd, Nat.reduceSub, Nat.reduceEqDiff, true_and, and_true, Nat.reduceLeDiff, Nat.lt_irrefl, Nat.succ_ne_self, forall_const, ne_eq, not_true_eq_false, not_false_eq_true, false_implies, implies_true, true_implies, true_or, or_true, or_false, false_or, eq_self, Int.reduceEq, Int.reduceLT, Int.reduceLE, Int.reduceNeg, Int.reduceToNat, Int.reduceAdd, Int.reduceSub, Int.reduceMul, Int.reduceNe, and_self, Int.toNat_natCast]
    refine ⟨fun y => ⟨⟨by omega, by omega⟩, ⟨_, rfl⟩, ?_⟩, fun y => ⟨fun y2 => ⟨⟨by omega, by omega⟩, ⟨_, rfl⟩, ?_⟩, fun y2 => ⟨⟨_, rfl⟩, bad (by omega)⟩⟩⟩
    · subst y
      refine mo_step1 (e := 0) hP hc2 (by omega) (by decide) ?_
      rw [Nat.add_zero, m1.1, ← c1.1]
      exact ⟨rfl, hJ.sc th_sc⟩
    · subst y2
      refine mo_step1 (e := 1) hP hc2 (by omega) (by decide) ?_
      rw [m1.2, ← c1.2]
      exact ⟨rfl, hJ.sc th_sc⟩
  · simp only [c_ic, c_lc, c_nul, c_il, c_ll, c_al, c_is, c_ls, c_as, c_inc, c_b2, c_b2n, c_b1, c_d2, c_d2n, c_dsh, c_i2l, c_l2i, c_lcm, c_dup, c_dup2, c_pop, c_j1, c_j2, c_jn, c_sw0, c_sw, c_gI, c_gL, c_gR, c_gS, c_pI, c_pZ, c_pL, c_pR, c_iald, c_ialg, c_iast, c_iasg, c_bald, c_bast, c_lald, c_last, c_aald, c_aals, c_aast, c_alen, c_bnd, c_str, c_bndl, c_bnln, c_sval, c_scod, c_sbal, c_sbln, c_fmt, c_stop, c_iret, c_zret, c_nret, c_aret, c_vret, c_lret, c_cpy, c_callV, c_callS, tkA, lget, lput, lkill, jpush, vsz, jcat, lins, lent, List.length_cons, List.length_nil, List.replicate, List.append_nil, List.cons_append, List.nil_append, reduceIte, Nat.reduceAdd, Nat.reduceSub, Nat.reduceEqDiff, true_and, and_true, Nat.reduceLeDiff, Nat.lt_irrefl, Nat.succ_ne_self, forall_const, ne_eq, not_true_eq_false, not_false_eq_true, false_implies, implies_true, true_implies, true_or, or_true, or_false, false_or, eq_self, Int.reduceEq, Int.reduceLT, Int.reduceLE, Int.reduceNeg, Int.reduceToNat, Int.reduceAdd, Int.reduceSub, Int.reduceMul, Int.reduceNe, and_self]
    exact ⟨⟨_, rfl⟩, bad (fun q => hn q.1)⟩
/-- what steps rest on: the realm, the law -/
def JV (σ : jM) (K F r N : Nat) (CL : Nat → List Int) (ru G : Nat → Int) (v : Int) : Prop := JR σ K F r ∧ JK σ N CL ∧ MI σ N CL ∧ σ.1 63 0 = ru ∧ σ.1 66 0 = G ∧ σ.1 10 0 34 = v ∧ RW K F ru G
section SV
variable {σ τ : jM} {Φ : jPh} {d : Nat} {K F r N : Nat} {CL : Nat → List Int} {ru G V W : Nat → Int} {v Y : Int}
theorem JQ.jv (h : JQ σ K F r N CL ru G W v) : JV σ K F r N CL ru G v := by
  obtain ⟨a1, a2, a3, a4, a5, a6, a7, a8, a9, a10, a11⟩ := h
  exact ⟨a1, a2, a3, a6, a7, a9, a10⟩
theorem JV.fr {S : jS} (h : JV σ K F r N CL ru G v) (hF : Fr S σ τ) (h1 : ∀ k j o, fR r k j o → ¬ S k j o) (h2 : ∀ k j o, fK N k j o → ¬ S k j o) (hM : MI τ N CL) : JV τ K F r N CL ru G v := by
  obtain ⟨a1, a2, a3, a4, a5, a6, a7⟩ := h
  refine ⟨a1.fr hF h1, a2.fr hF h2, hM, ?_, ?_, ?_, a7⟩
  · rw [← a4]; exact hF.row (fun o => h1 _ _ _ (by unfold fR; omega))
  · rw [← a5]; exact hF.row (fun o => h1 _ _ _ (by unfold fR; omega))
  · rw [← a6]; exact hF.i (h2 _ _ _ (by unfold fK; omega))
theorem elo.canE {kind k : Int} (h : elo V W) (hK : K ≤ 4) : canP K V kind k ↔ canP K W kind k := by
  unfold canP
  rw [h 18 (by decide), h 17 (by decide)]
  by_cases z : 0 ≤ k ∧ k < K
  · rw [h (4 * k.toNat) (by omega), h (4 * k.toNat + 1) (by omega), h (4 * k.toNat + 2) (by omega)]
  · constructor
    · intro q; rcases q with q | q
      · exact Or.inl q
      · exact absurd q.1 z
    · intro q; rcases q with q | q
      · exact Or.inl q
      · exact absurd q.1 z
theorem elo.stpE {lw : Option (List Int)} {kind k : Int} (h : elo V W) (hR : RW K F ru G) (hW : WW K Y W) (hc : canP K W kind k) : elo (stp lw (ru 0) G F kind k V) (stp lw (ru 0) G F kind k W) := by
  unfold stp
  by_cases z : kind = 0
  · rw [if_pos z, if_pos z]; exact h.ySE hR hW
  · rw [if_neg z, if_neg z]
    have hK := hR.1
    have hk : 0 ≤ k ∧ k < K := by unfold canP at hc; omega
    unfold tkS spS
    rw [h 16 (by decide), h 17 (by decide), h (4 * k.toNat + 0) (by omega), h (4 * k.toNat + 1) (by omega), h (4 * k.toNat + 2) (by omega)]
    repeat' split
    all_goals first | exact h.upE _ _ | exact (h.upE _ _).upE _ _
theorem elo.stBE {lw : Option (List Int)} {kind : Int} (h : elo V W) (hR : RW K F ru G) (hW : W 19 ≤ 30) : stB lw G F kind V = stB lw G F kind W := by
  unfold stB
  split
  · exact h.yBE hR hW
  · rfl
theorem stpOK {lw : Option (List Int)} {kind k : Int} (hR : RW K F ru G) (hW : WW K 999 W) (hP : PF F W) (hc : canP K W kind k) : WW K 999 (stp lw (ru 0) G F kind k W) ∧ PF F (stp lw (ru 0) G F kind k W) := by
  unfold stp
  by_cases z : kind = 0
  · rw [if_pos z]
    have : W 18 ≤ 998 := by unfold canP at hc; omega
    exact yearOK hR (hW.lowY (Y' := 998) this) hP
  · rw [if_neg z]
    exact tkOK hR.1.2 hW hP hc z
theorem ok_MO_canStep {row j : Nat} {kind k : Int} (hK : σ.1 10 0 26 = K) (hK4 : K ≤ 4) (hK0 : 0 < K) (h1 : σ.1 67 0 row = kind) (h2 : σ.1 67 0 (row + 1) = k) (hr : row + 1 < 160) (hs : PSt (kind, k)) (hp : canP K (σ.1 69 j) kind k → Φ (some (.inl 1)) σ) (h0 : ¬ canP K (σ.1 69 j) kind k → Φ (some (.inl 0)) σ) : Ct (d + 3) M_MO_canStep [rf 10 0, rf 69 j, .inl row] σ Φ := by
  refine i_MO_canStep (Nat.le_succ 3) ?_
  unfold PSt at hs
  simp only at hs
  simp only [w_MO_canStep_69, w_MO_canStep_62, w_MO_canStep_56, w_MO_canStep_55, w_MO_canStep_54, w_MO_canStep_40, w_MO_canStep_0, c_ic, c_lc, c_nul, c_il, c_ll, c_al, c_is, c_ls, c_as, c_inc, c_b2, c_b2n, c_b1, c_d2, c_d2n, c_dsh, c_i2l, c_l2i, c_lcm, c_dup, c_dup2, c_pop, c_j1, c_j2, c_jn, c_sw0, c_sw, c_gI, c_gL, c_gR, c_gS, c_pI, c_pZ, c_pL, c_pR, c_iald, c_ialg, c_iast, c_iasg, c_bald, c_bast, c_lald, c_last, c_aald, c_aals, c_aast, c_alen, c_bnd, c_str, c_bndl, c_bnln, c_sval, c_scod, c_sbal, c_sbln, c_fmt, c_stop, c_iret, c_zret, c_nret, c_aret, c_vret, c_lret, c_cpy, c_callV, c_callS, tkA, lget, lput, lkill, jpush, vsz, jcat, lins, lent, List.length_cons, List.length_nil, List.replicate, List.append_nil, List.cons_append, List.nil_append, reduceIte, Nat.reduceAdd, Nat.reduceSub, Nat.reduceEqDiff, true_and, and_true, Nat.reduceLeDiff, Nat.lt_irrefl, Nat.succ_ne_self, forall_const, ne_eq, not_true_eq_false, not_false_eq_true, false_implies, implies_true, true_implies, true_or, or_true, or_false, false_or, eq_self, Int.reduceEq, Int.reduceLT, Int.reduceLE, Int.reduceNeg, Int.reduceToNat, Int.reduceAdd, Int.reduceSub, Int.reduceMul, Int.reduceNe, and_self, eT69, eC69, jl69, Nat.reduceLT, inc_nat (show row ≤ 100000 by omega), Int.toNat_natCast, h1, h2]
  refine ⟨⟨by omega, by omega⟩, ⟨by omega, by omega⟩, fun z => ⟨fun z2 => h0 ?_, fun z2 => hp ?_⟩, fun z => ⟨fun z2 => ?_, fun z2 => ⟨fun z3 => ?_, fun z3 => ?_⟩⟩⟩
  · unfold canP; omega
  · unfold canP; omega
  · refine ok_MO_isKingdom (K := K) hK ?_
    simp only [c_ic, c_lc, c_nul, c_il, c_ll, c_al, c_is, c_ls, c_as, c_inc, c_b2, c_b2n, c_b1, c_d2, c_d2n, c_dsh, c_i2l, c_l2i, c_lcm, c_dup, c_dup2, c_pop, c_j1, c_j2, c_jn, c_sw0, c_sw, c_gI, c_gL, c_gR, c_gS, c_pI, c_pZ, c_pL, c_pR, c_iald, c_ialg, c_iast, c_iasg, c_bald, c_bast, c_lald, c_last, c_aald, c_aals, c_aast, c_alen, c_bnd, c_str, c_bndl, c_bnln, c_sval, c_scod, c_sbal, c_sbln, c_fmt, c_stop, c_iret, c_zret, c_nret, c_aret, c_vret, c_lret, c_cpy, c_callV, c_callS, tkA, lget, lput, lkill, jpush, vsz, jcat, lins, lent, List.length_cons, List.length_nil, List.replicate, List.append_nil, List.cons_append, List.nil_append, reduceIte, Nat.reduceAdd, Nat.reduceSub, Nat.reduceEqDiff, true_and, and_true, Nat.reduceLeDiff, Nat.lt_irrefl, Nat.succ_ne_self, forall_const, ne_eq, not_true_eq_false, not_false_eq_true, false_implies, implies_true, true_implies, true_or, or_true, or_false, false_or, eq_self, Int.reduceEq, Int.reduceLT, Int.reduceLE, Int.reduceNeg, Int.reduceToNat, Int.reduceAdd, Int.reduceSub, Int.reduceMul, Int.reduceNe, and_self]
    by_cases y : 0 ≤ k ∧ k < K
    · rw [if_pos y]; exact ⟨Or.inr rfl, hp (Or.inr ⟨y, Or.inl z2⟩)⟩
    · rw [if_neg y]; exact ⟨Or.inl rfl, h0 (by unfold canP; omega)⟩
  · refine ok_MO_canArm (K := K) hK hK4 (fun q => ?_) (fun q => ?_)
    · simp only [c_ic, c_lc, c_nul, c_il, c_ll, c_al, c_is, c_ls, c_as, c_inc, c_b2, c_b2n, c_b1, c_d2, c_d2n, c_dsh, c_i2l, c_l2i, c_lcm, c_dup, c_dup2, c_pop, c_j1, c_j2, c_jn, c_sw0, c_sw, c_gI, c_gL, c_gR, c_gS, c_pI, c_pZ, c_pL, c_pR, c_iald, c_ialg, c_iast, c_iasg, c_bald, c_bast, c_lald, c_last, c_aald, c_aals, c_aast, c_alen, c_bnd, c_str, c_bndl, c_bnln, c_sval, c_scod, c_sbal, c_sbln, c_fmt, c_stop, c_iret, c_zret, c_nret, c_aret, c_vret, c_lret, c_cpy, c_callV, c_callS, tkA, lget, lput, lkill, jpush, vsz, jcat, lins, lent, List.length_cons, List.length_nil, List.replicate, List.append_nil, List.cons_append, List.nil_append, reduceIte, Nat.reduceAdd, Nat.reduceSub, Nat.reduceEqDiff, true_and, and_true, Nat.reduceLeDiff, Nat.lt_irrefl, Nat.succ_ne_self, forall_const, ne_eq, not_true_eq_false, not_false_eq_true, false_implies, implies_true, true_implies, true_or, or_true, or_false, false_or, eq_self, Int.reduceEq, Int.reduceLT, Int.reduceLE, Int.reduceNeg, Int.reduceToNat, Int.reduceAdd, Int.reduceSub, Int.reduceMul, Int.reduceNe, and_self]
      exact hp (Or.inr ⟨q.1, Or.inr (Or.inl ⟨z3, q.2⟩)⟩)
    · simp only [c_ic, c_lc, c_nul, c_il, c_ll, c_al, c_is, c_ls, c_as, c_inc, c_b2, c_b2n, c_b1, c_d2, c_d2n, c_dsh, c_i2l, c_l2i, c_lcm, c_dup, c_dup2, c_pop, c_j1, c_j2, c_jn, c_sw0, c_sw, c_gI, c_gL, c_gR, c_gS, c_pI, c_pZ, c_pL, c_pR, c_iald, c_ialg, c_iast, c_iasg, c_bald, c_bast, c_lald, c_last, c_aald, c_aals, c_aast, c_alen, c_bnd, c_str, c_bndl, c_bnln, c_sval, c_scod, c_sbal, c_sbln, c_fmt, c_stop, c_iret, c_zret, c_nret, c_aret, c_vret, c_lret, c_cpy, c_callV, c_callS, tkA, lget, lput, lkill, jpush, vsz, jcat, lins, lent, List.length_cons, List.length_nil, List.replicate, List.append_nil, List.cons_append, List.nil_append, reduceIte, Nat.reduceAdd, Nat.reduceSub, Nat.reduceEqDiff, true_and, and_true, Nat.reduceLeDiff, Nat.lt_irrefl, Nat.succ_ne_self, forall_const, ne_eq, not_true_eq_false, not_false_eq_true, false_implies, implies_true, true_implies, true_or, or_true, or_false, false_or, eq_self, Int.reduceEq, Int.reduceLT, Int.reduceLE, Int.reduceNeg, Int.reduceToNat, Int.reduceAdd, Int.reduceSub, Int.reduceMul, Int.reduceNe, and_self]
      refine h0 (fun w => q ?_)
      unfold canP at w
      omega
  · refine ok_MO_canTeach (K := K) hK hK4 (fun q => ?_) (fun q => ?_)
    · simp only [c_ic, c_lc, c_nul, c_il, c_ll, c_al, c_is, c_ls, c_as, c_inc, c_b2, c_b2n, c_b1, c_d2, c_d2n, c_dsh, c_i2l, c_l2i, c_lcm, c_dup, c_dup2, c_pop, c_j1, c_j2, c_jn, c_sw0, c_sw, c_gI, c_gL, c_gR, c_gS, c_pI, c_pZ, c_pL, c_pR, c_iald, c_ialg, c_iast, c_iasg, c_bald, c_bast, c_lald, c_last, c_aald, c_aals, c_aast, c_alen, c_bnd, c_str, c_bndl, c_bnln, c_sval, c_scod, c_sbal, c_sbln, c_fmt, c_stop, c_iret, c_zret, c_nret, c_aret, c_vret, c_lret, c_cpy, c_callV, c_callS, tkA, lget, lput, lkill, jpush, vsz, jcat, lins, lent, List.length_cons, List.length_nil, List.replicate, List.append_nil, List.cons_append, List.nil_append, reduceIte, Nat.reduceAdd, Nat.reduceSub, Nat.reduceEqDiff, true_and, and_true, Nat.reduceLeDiff, Nat.lt_irrefl, Nat.succ_ne_self, forall_const, ne_eq, not_true_eq_false, not_false_eq_true, false_implies, implies_true, true_implies, true_or, or_true, or_false, false_or, eq_self, Int.reduceEq, Int.reduceLT, Int.reduceLE, Int.reduceNeg, Int.reduceToNat, Int.reduceAdd, Int.reduceSub, Int.reduceMul, Int.reduceNe, and_self]
      exact hp (Or.inr ⟨q.1, Or.inr (Or.inr (Or.inl ⟨by omega, q.2⟩))⟩)
    · simp only [c_ic, c_lc, c_nul, c_il, c_ll, c_al, c_is, c_ls, c_as, c_inc, c_b2, c_b2n, c_b1, c_d2, c_d2n, c_dsh, c_i2l, c_l2i, c_lcm, c_dup, c_dup2, c_pop, c_j1, c_j2, c_jn, c_sw0, c_sw, c_gI, c_gL, c_gR, c_gS, c_pI, c_pZ, c_pL, c_pR, c_iald, c_ialg, c_iast, c_iasg, c_bald, c_bast, c_lald, c_last, c_aald, c_aals, c_aast, c_alen, c_bnd, c_str, c_bndl, c_bnln, c_sval, c_scod, c_sbal, c_sbln, c_fmt, c_stop, c_iret, c_zret, c_nret, c_aret, c_vret, c_lret, c_cpy, c_callV, c_callS, tkA, lget, lput, lkill, jpush, vsz, jcat, lins, lent, List.length_cons, List.length_nil, List.replicate, List.append_nil, List.cons_append, List.nil_append, reduceIte, Nat.reduceAdd, Nat.reduceSub, Nat.reduceEqDiff, true_and, and_true, Nat.reduceLeDiff, Nat.lt_irrefl, Nat.succ_ne_self, forall_const, ne_eq, not_true_eq_false, not_false_eq_true, false_implies, implies_true, true_implies, true_or, or_true, or_false, false_or, eq_self, Int.reduceEq, Int.reduceLT, Int.reduceLE, Int.reduceNeg, Int.reduceToNat, Int.reduceAdd, Int.reduceSub, Int.reduceMul, Int.reduceNe, and_self]
      refine h0 (fun w => q ?_)
      unfold canP at w
      omega
theorem ok_MO_goStep {row j : Nat} {kind k : Int} (h : JV σ K F r N CL ru G v) (hrw : σ.1 69 j = V) (hV : WW K Y V) (hY : Y ≤ 1998) (h1 : σ.1 67 0 row = kind) (h2 : σ.1 67 0 (row + 1) = k) (hr : row + 1 < 160) (hs : PSt (kind, k)) (hc : canP K V kind k) (hp : ∀ τ, Fr (fun k' j' o => Sd k' j' o ∨ (k' = 69 ∧ j' = j)) σ τ → MI τ N CL → τ.1 69 j = stp (lwO v CL) (ru 0) G F kind k V → Φ (some (.inl (if stB (lwO v CL) G F kind V = -1 then 0 else 1))) τ) : Ct (d + 38) M_MO_goStep [rf 10 0, rf 69 j, .inl row] σ Φ := by
  obtain ⟨a1, a2, a3, a4, a5, a6, a7⟩ := h
  have K4 := a1.2.2.2.2.2.2.2.1
  refine i_MO_goStep (Nat.le_succ 3) ?_
  unfold PSt at hs
  simp only at hs
  simp only [w_MO_goStep_76, w_MO_goStep_67, w_MO_goStep_55, w_MO_goStep_54, w_MO_goStep_53, w_MO_goStep_40, w_MO_goStep_0, c_ic, c_lc, c_nul, c_il, c_ll, c_al, c_is, c_ls, c_as, c_inc, c_b2, c_b2n, c_b1, c_d2, c_d2n, c_dsh, c_i2l, c_l2i, c_lcm, c_dup, c_dup2, c_pop, c_j1, c_j2, c_jn, c_sw0, c_sw, c_gI, c_gL, c_gR, c_gS, c_pI, c_pZ, c_pL, c_pR, c_iald, c_ialg, c_iast, c_iasg, c_bald, c_bast, c_lald, c_last, c_aald, c_aals, c_aast, c_alen, c_bnd, c_str, c_bndl, c_bnln, c_sval, c_scod, c_sbal, c_sbln, c_fmt, c_stop, c_iret, c_zret, c_nret, c_aret, c_vret, c_lret, c_cpy, c_callV, c_callS, tkA, lget, lput, lkill, jpush, vsz, jcat, lins, lent, List.length_cons, List.length_nil, List.replicate, List.append_nil, List.cons_append, List.nil_append, reduceIte, Nat.reduceAdd, Nat.reduceSub, Nat.reduceEqDiff, true_and, and_true, Nat.reduceLeDiff, Nat.lt_irrefl, Nat.succ_ne_self, forall_const, ne_eq, not_true_eq_false, not_false_eq_true, false_implies, implies_true, true_implies, true_or, or_true, or_false, false_or, eq_self, Int.reduceEq, Int.reduceLT, Int.reduceLE, Int.reduceNeg, Int.reduceToNat, Int.reduceAdd, Int.reduceSub, Int.reduceMul, Int.reduceNe, and_self, eT69, eC69, jl69, Nat.reduceLT, inc_nat (show row ≤ 100000 by omega), Int.toNat_natCast, h1, h2]
  unfold stp stB at hp
  refine ⟨⟨by omega, by omega⟩, ⟨by omega, by omega⟩, fun z => ?_, fun z => ?_⟩
  · simp only [if_pos z] at hp
    refine ok_MO_goYear a3 (a2.lwm a6) (K := K) (F := F) (by rw [a4, a5]; exact a7) a1.2.2.2.2.2.2.1 (by rw [hrw]; exact hV) (by omega) (fun τ t1 t2 => ?_)
    rw [a4, a5, hrw]
    have hp := hp _ ((t1.wk (fun _ _ _ q => Or.inl q.sd)).sA (fun o => Or.inr ⟨rfl, rfl⟩)) t2.sAm (by rw [sA_row])
    simp only [c_ic, c_lc, c_nul, c_il, c_ll, c_al, c_is, c_ls, c_as, c_inc, c_b2, c_b2n, c_b1, c_d2, c_d2n, c_dsh, c_i2l, c_l2i, c_lcm, c_dup, c_dup2, c_pop, c_j1, c_j2, c_jn, c_sw0, c_sw, c_gI, c_gL, c_gR, c_gS, c_pI, c_pZ, c_pL, c_pR, c_iald, c_ialg, c_iast, c_iasg, c_bald, c_bast, c_lald, c_last, c_aald, c_aals, c_aast, c_alen, c_bnd, c_str, c_bndl, c_bnln, c_sval, c_scod, c_sbal, c_sbln, c_fmt, c_stop, c_iret, c_zret, c_nret, c_aret, c_vret, c_lret, c_cpy, c_callV, c_callS, tkA, lget, lput, lkill, jpush, vsz, jcat, lins, lent, List.length_cons, List.length_nil, List.replicate, List.append_nil, List.cons_append, List.nil_append, reduceIte, Nat.reduceAdd, Nat.reduceSub, Nat.reduceEqDiff, true_and, and_true, Nat.reduceLeDiff, Nat.lt_irrefl, Nat.succ_ne_self, forall_const, ne_eq, not_true_eq_false, not_false_eq_true, false_implies, implies_true, true_implies, true_or, or_true, or_false, false_or, eq_self, Int.reduceEq, Int.reduceLT, Int.reduceLE, Int.reduceNeg, Int.reduceToNat, Int.reduceAdd, Int.reduceSub, Int.reduceMul, Int.reduceNe, and_self]
    refine ⟨fun y => ?_, fun y => ?_⟩
    · rw [if_neg y] at hp; exact hp
    · rw [if_pos (Classical.not_not.mp y)] at hp; exact hp
  · simp only [if_neg z, if_true] at hp
    have hk : 0 ≤ k ∧ k < K := by unfold canP at hc; omega
    obtain ⟨i, rfl⟩ := Int.eq_ofNat_of_zero_le hk.1
    rw [Int.toNat_natCast] at hp
    unfold canP at hc
    rw [Int.toNat_natCast] at hc
    have x17 := hV.2.2.2.1
    have xk := hV.1 i (by omega)
    have hs2 : Fr (fun k' j' o => Sd k' j' o ∨ (k' = 69 ∧ j' = j)) σ σ := Fr.rf
    refine ⟨fun z2 => ?_, fun z2 => ⟨fun z3 => ?_, fun z3 => ?_⟩⟩
    · have hp := hp (sA σ 69 j (tkS kind i V)) (hs2.sA (fun o => Or.inr ⟨rfl, rfl⟩)) a3.sAm (by rw [sA_row])
      unfold tkS at hp
      rw [if_pos z2] at hp
      rw [sI_sA, hrw]
      exact hp
    · have hp := hp (sA σ 69 j (tkS kind i V)) (hs2.sA (fun o => Or.inr ⟨rfl, rfl⟩)) a3.sAm (by rw [sA_row])
      unfold tkS at hp
      rw [if_neg z2, if_pos z3] at hp
      refine ok_MO_spends (what := 0) (by omega) (by decide) (by rw [hrw]; omega) (by rw [hrw, Nat.add_zero]; omega) ?_
      rw [hrw]
      simp only [c_ic, c_lc, c_nul, c_il, c_ll, c_al, c_is, c_ls, c_as, c_inc, c_b2, c_b2n, c_b1, c_d2, c_d2n, c_dsh, c_i2l, c_l2i, c_lcm, c_dup, c_dup2, c_pop, c_j1, c_j2, c_jn, c_sw0, c_sw, c_gI, c_gL, c_gR, c_gS, c_pI, c_pZ, c_pL, c_pR, c_iald, c_ialg, c_iast, c_iasg, c_bald, c_bast, c_lald, c_last, c_aald, c_aals, c_aast, c_alen, c_bnd, c_str, c_bndl, c_bnln, c_sval, c_scod, c_sbal, c_sbln, c_fmt, c_stop, c_iret, c_zret, c_nret, c_aret, c_vret, c_lret, c_cpy, c_callV, c_callS, tkA, lget, lput, lkill, jpush, vsz, jcat, lins, lent, List.length_cons, List.length_nil, List.replicate, List.append_nil, List.cons_append, List.nil_append, reduceIte, Nat.reduceAdd, Nat.reduceSub, Nat.reduceEqDiff, true_and, and_true, Nat.reduceLeDiff, Nat.lt_irrefl, Nat.succ_ne_self, forall_const, ne_eq, not_true_eq_false, not_false_eq_true, false_implies, implies_true, true_implies, true_or, or_true, or_false, false_or, eq_self, Int.reduceEq, Int.reduceLT, Int.reduceLE, Int.reduceNeg, Int.reduceToNat, Int.reduceAdd, Int.reduceSub, Int.reduceMul, Int.reduceNe, and_self]
      exact hp
    · have hp := hp (sA σ 69 j (tkS kind i V)) (hs2.sA (fun o => Or.inr ⟨rfl, rfl⟩)) a3.sAm (by rw [sA_row])
      unfold tkS at hp
      rw [if_neg z2, if_neg z3, if_pos (by omega)] at hp
      refine ok_MO_spends (what := 2) (by omega) (by decide) (by rw [hrw]; omega) (by rw [hrw]; omega) ?_
      rw [hrw]
      simp only [c_ic, c_lc, c_nul, c_il, c_ll, c_al, c_is, c_ls, c_as, c_inc, c_b2, c_b2n, c_b1, c_d2, c_d2n, c_dsh, c_i2l, c_l2i, c_lcm, c_dup, c_dup2, c_pop, c_j1, c_j2, c_jn, c_sw0, c_sw, c_gI, c_gL, c_gR, c_gS, c_pI, c_pZ, c_pL, c_pR, c_iald, c_ialg, c_iast, c_iasg, c_bald, c_bast, c_lald, c_last, c_aald, c_aals, c_aast, c_alen, c_bnd, c_str, c_bndl, c_bnln, c_sval, c_scod, c_sbal, c_sbln, c_fmt, c_stop, c_iret, c_zret, c_nret, c_aret, c_vret, c_lret, c_cpy, c_callV, c_callS, tkA, lget, lput, lkill, jpush, vsz, jcat, lins, lent, List.length_cons, List.length_nil, List.replicate, List.append_nil, List.cons_append, List.nil_append, reduceIte, Nat.reduceAdd, Nat.reduceSub, Nat.reduceEqDiff, true_and, and_true, Nat.reduceLeDiff, Nat.lt_irrefl, Nat.succ_ne_self, forall_const, ne_eq, not_true_eq_false, not_false_eq_true, false_implies, implies_true, true_implies, true_or, or_true, or_false, false_or, eq_self, Int.reduceEq, Int.reduceLT, Int.reduceLE, Int.reduceNeg, Int.reduceToNat, Int.reduceAdd, Int.reduceSub, Int.reduceMul, Int.reduceNe, and_self]
      exact hp
end SV
/-- worlds along a campaign; the pages written -/
def rI (lw : Option (List Int)) (ru G : Nat → Int) (F : Nat) (ss : List (Int × Int)) (W : Nat → Int) : Nat → Nat → Int
  | 0 => W
  | i + 1 => stp lw (ru 0) G F (ss.getD i (0, 0)).1 (ss.getD i (0, 0)).2 (rI lw ru G F ss W i)
def rP (lw : Option (List Int)) (ru G : Nat → Int) (F : Nat) (ss : List (Int × Int)) (W : Nat → Int) : Nat → Int
  | 0 => 0
  | i + 1 => rP lw ru G F ss W i + (if stB lw G F (ss.getD i (0, 0)).1 (rI lw ru G F ss W i) = -1 then 0 else 1)
theorem rP_in (lw : Option (List Int)) (ru G : Nat → Int) (F : Nat) (ss : List (Int × Int)) (W : Nat → Int) : ∀ i : Nat, 0 ≤ rP lw ru G F ss W i ∧ rP lw ru G F ss W i ≤ i
  | 0 => by unfold rP; decide
  | i + 1 => by
    have := rP_in lw ru G F ss W i
    unfold rP
    split <;> omega
theorem rI_ok {K F : Nat} {ru G W : Nat → Int} {lw : Option (List Int)} {ss : List (Int × Int)} (hR : RW K F ru G) (hW : WW K 999 W) (hP : PF F W) : ∀ i : Nat, (∀ q, q < i → canP K (rI lw ru G F ss W q) (ss.getD q (0, 0)).1 (ss.getD q (0, 0)).2) → WW K 999 (rI lw ru G F ss W i) ∧ PF F (rI lw ru G F ss W i)
  | 0, _ => ⟨hW, hP⟩
  | i + 1, h => by
    have ih := rI_ok hR hW hP i (fun q hq => h q (by omega))
    exact stpOK hR ih.1 ih.2 (h i (by omega))
theorem getD_mem2 {ss : List (Int × Int)} {i : Nat} (h : i < ss.length) : ss.getD i (0, 0) ∈ ss := by
  rw [List.getD_eq_getElem?_getD, List.getElem?_eq_getElem h]
  exact List.getElem_mem h
