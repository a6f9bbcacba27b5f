/-! ===== 98 pairs: run, perform ===== -/
theorem pr_run {c what : Int} : Pr M_LB_run M_MO_run [.inl c, .inl what] := by
  intro σ q hJ
  obtain ⟨n, T, K, F, r, N, P, CL, PL, U, nt, rfl, hJx⟩ := id hJ
  obtain ⟨hT, hR, hW, hA, hI, hK, hM, hP, hN, hG⟩ := id hJx
  obtain ⟨q1, -, -, q2, -, q4, q5, K4, F8, q6⟩ := id hR
  obtain ⟨p4, p1, p2, -, p5⟩ := id hP
  obtain ⟨hC, hWW, hPF⟩ := id hW
  have h19 := hWW.2.2.2.2.2.1
  have h110 := hWW.2.2.2.2.2.2.2.1
  have bad : ¬ ((0 ≤ c ∧ c < P) ∧ 0 < K ∧ 0 ≤ what ∧ what ≤ 1) → Ct 60 M_MO_run [rf 10 0, .inl c, .inl what] σ (fun y τ' => y = some (.inl (-1000000)) ∧ J (N, P) τ') := by
    intro hb
    refine i_MO_run (Nat.le_add_right 3 2) (fun At h50 => ?_)
    simp only [w_MO_run_0, w_MO_run_30, c_ic, c_lc, c_nul, c_il, c_ll, c_al, c_is, c_ls, c_as, c_inc, c_b2, c_b2n, c_b1, c_d2, c_d2n, c_dsh, c_i2l, c_l2i, c_lcm, c_dup, c_dup2, c_pop, c_j1, c_j2, c_jn, c_sw0, c_sw, c_gI, c_gL, c_gR, c_gS, c_pI, c_pZ, c_pL, c_pR, c_iald, c_ialg, c_iast, c_iasg, c_bald, c_bast, c_lald, c_last, c_aald, c_aals, c_aast, c_alen, c_bnd, c_str, c_bndl, c_bnln, c_sval, c_scod, c_sbal, c_sbln, c_fmt, c_stop, c_iret, c_zret, c_nret, c_aret, c_vret, c_lret, c_cpy, c_callV, c_callS, tkA, lget, lput, lkill, jpush, vsz, jcat, lins, lent, List.length_cons, List.length_nil, List.replicate, List.append_nil, List.cons_append, List.nil_append, reduceIte, Nat.reduceAdd, Nat.reduceSub, Nat.reduceEqDiff, true_and, and_true, Nat.reduceLeDiff, Nat.lt_irrefl, Nat.succ_ne_self, forall_const, ne_eq, not_true_eq_false, not_false_eq_true, false_implies, implies_true, true_implies, true_or, or_true, or_false, false_or, eq_self, Int.reduceEq, Int.reduceLT, Int.reduceLE, Int.reduceNeg, Int.reduceToNat, Int.reduceAdd, Int.reduceSub, Int.reduceMul, Int.reduceNe, and_self]
    refine ok_MO_isPlan (P := P) p2 ?_
    simp only [c_ic, c_lc, c_nul, c_il, c_ll, c_al, c_is, c_ls, c_as, c_inc, c_b2, c_b2n, c_b1, c_d2, c_d2n, c_dsh, c_i2l, c_l2i, c_lcm, c_dup, c_dup2, c_pop, c_j1, c_j2, c_jn, c_sw0, c_sw, c_gI, c_gL, c_gR, c_gS, c_pI, c_pZ, c_pL, c_pR, c_iald, c_ialg, c_iast, c_iasg, c_bald, c_bast, c_lald, c_last, c_aald, c_aals, c_aast, c_alen, c_bnd, c_str, c_bndl, c_bnln, c_sval, c_scod, c_sbal, c_sbln, c_fmt, c_stop, c_iret, c_zret, c_nret, c_aret, c_vret, c_lret, c_cpy, c_callV, c_callS, tkA, lget, lput, lkill, jpush, vsz, jcat, lins, lent, List.length_cons, List.length_nil, List.replicate, List.append_nil, List.cons_append, List.nil_append, reduceIte, Nat.reduceAdd, Nat.reduceSub, Nat.reduceEqDiff, true_and, and_true, Nat.reduceLeDiff, Nat.lt_irrefl, Nat.succ_ne_self, forall_const, ne_eq, not_true_eq_false, not_false_eq_true, false_implies, implies_true, true_implies, true_or, or_true, or_false, false_or, eq_self, Int.reduceEq, Int.reduceLT, Int.reduceLE, Int.reduceNeg, Int.reduceToNat, Int.reduceAdd, Int.reduceSub, Int.reduceMul, Int.reduceNe, and_self, g_sI, g_sI2, g_sL1, g_sL, g_sL2, g_sR1, g_sR2, g_sR, g_sA, g_sA2, and_false, false_and, and_self, if_false, if_true, q4]
    refine ⟨fun _ => hJ.sc th_sc, fun z => ⟨fun _ => hJ.sc th_sc, fun z2 => ?_⟩⟩
    have z1 : 0 ≤ c ∧ c < P := Classical.byContradiction (fun q => z (if_neg q))
    refine ok_MO_isIn ?_
    rw [if_neg (by omega)]
    simp only [c_ic, c_lc, c_nul, c_il, c_ll, c_al, c_is, c_ls, c_as, c_inc, c_b2, c_b2n, c_b1, c_d2, c_d2n, c_dsh, c_i2l, c_l2i, c_lcm, c_dup, c_dup2, c_pop, c_j1, c_j2, c_jn, c_sw0, c_sw, c_gI, c_gL, c_gR, c_gS, c_pI, c_pZ, c_pL, c_pR, c_iald, c_ialg, c_iast, c_iasg, c_bald, c_bast, c_lald, c_last, c_aald, c_aals, c_aast, c_alen, c_bnd, c_str, c_bndl, c_bnln, c_sval, c_scod, c_sbal, c_sbln, c_fmt, c_stop, c_iret, c_zret, c_nret, c_aret, c_vret, c_lret, c_cpy, c_callV, c_callS, tkA, lget, lput, lkill, jpush, vsz, jcat, lins, lent, List.length_cons, List.length_nil, List.replicate, List.append_nil, List.cons_append, List.nil_append, reduceIte, Nat.reduceAdd, Nat.reduceSub, Nat.reduceEqDiff, true_and, and_true, Nat.reduceLeDiff, Nat.lt_irrefl, Nat.succ_ne_self, forall_const, ne_eq, not_true_eq_false, not_false_eq_true, false_implies, implies_true, true_implies, true_or, or_true, or_false, false_or, eq_self, Int.reduceEq, Int.reduceLT, Int.reduceLE, Int.reduceNeg, Int.reduceToNat, Int.reduceAdd, Int.reduceSub, Int.reduceMul, Int.reduceNe, and_self]
    exact hJ.sc th_sc
  refine i_LB_run (Nat.le_add_right 3 4) (fun At h46 => ?_)
  simp only [w_LB_run_0, w_LB_run_26, w_LB_run_29, c_ic, c_lc, c_nul, c_il, c_ll, c_al, c_is, c_ls, c_as, c_inc, c_b2, c_b2n, c_b1, c_d2, c_d2n, c_dsh, c_i2l, c_l2i, c_lcm, c_dup, c_dup2, c_pop, c_j1, c_j2, c_jn, c_sw0, c_sw, c_gI, c_gL, c_gR, c_gS, c_pI, c_pZ, c_pL, c_pR, c_iald, c_ialg, c_iast, c_iasg, c_bald, c_bast, c_lald, c_last, c_aald, c_aals, c_aast, c_alen, c_bnd, c_str, c_bndl, c_bnln, c_sval, c_scod, c_sbal, c_sbln, c_fmt, c_stop, c_iret, c_zret, c_nret, c_aret, c_vret, c_lret, c_cpy, c_callV, c_callS, tkA, lget, lput, lkill, jpush, vsz, jcat, lins, lent, List.length_cons, List.length_nil, List.replicate, List.append_nil, List.cons_append, List.nil_append, reduceIte, Nat.reduceAdd, Nat.reduceSub, Nat.reduceEqDiff, true_and, and_true, Nat.reduceLeDiff, Nat.lt_irrefl, Nat.succ_ne_self, forall_const, ne_eq, not_true_eq_false, not_false_eq_true, false_implies, implies_true, true_implies, true_or, or_true, or_false, false_or, eq_self, Int.reduceEq, Int.reduceLT, Int.reduceLE, Int.reduceNeg, Int.reduceToNat, Int.reduceAdd, Int.reduceSub, Int.reduceMul, Int.reduceNe, and_self]
  refine ok_LB_campaignOf hP (fun c' hc hc2 => ?_) (fun hn => ?_)
  rotate_left
  · simp only [c_ic, c_lc, c_nul, c_il, c_ll, c_al, c_is, c_ls, c_as, c_inc, c_b2, c_b2n, c_b1, c_d2, c_d2n, c_dsh, c_i2l, c_l2i, c_lcm, c_dup, c_dup2, c_pop, c_j1, c_j2, c_jn, c_sw0, c_sw, c_gI, c_gL, c_gR, c_gS, c_pI, c_pZ, c_pL, c_pR, c_iald, c_ialg, c_iast, c_iasg, c_bald, c_bast, c_lald, c_last, c_aald, c_aals, c_aast, c_alen, c_bnd, c_str, c_bndl, c_bnln, c_sval, c_scod, c_sbal, c_sbln, c_fmt, c_stop, c_iret, c_zret, c_nret, c_aret, c_vret, c_lret, c_cpy, c_callV, c_callS, tkA, lget, lput, lkill, jpush, vsz, jcat, lins, lent, List.length_cons, List.length_nil, List.replicate, List.append_nil, List.cons_append, List.nil_append, reduceIte, Nat.reduceAdd, Nat.reduceSub, Nat.reduceEqDiff, true_and, and_true, Nat.reduceLeDiff, Nat.lt_irrefl, Nat.succ_ne_self, forall_const, ne_eq, not_true_eq_false, not_false_eq_true, false_implies, implies_true, true_implies, true_or, or_true, or_false, false_or, eq_self, Int.reduceEq, Int.reduceLT, Int.reduceLE, Int.reduceNeg, Int.reduceToNat, Int.reduceAdd, Int.reduceSub, Int.reduceMul, Int.reduceNe, and_self]
    exact ⟨⟨_, rfl⟩, bad (fun q => hn q.1)⟩
  subst hc
  simp only [c_ic, c_lc, c_nul, c_il, c_ll, c_al, c_is, c_ls, c_as, c_inc, c_b2, c_b2n, c_b1, c_d2, c_d2n, c_dsh, c_i2l, c_l2i, c_lcm, c_dup, c_dup2, c_pop, c_j1, c_j2, c_jn, c_sw0, c_sw, c_gI, c_gL, c_gR, c_gS, c_pI, c_pZ, c_pL, c_pR, c_iald, c_ialg, c_iast, c_iasg, c_bald, c_bast, c_lald, c_last, c_aald, c_aals, c_aast, c_alen, c_bnd, c_str, c_bndl, c_bnln, c_sval, c_scod, c_sbal, c_sbln, c_fmt, c_stop, c_iret, c_zret, c_nret, c_aret, c_vret, c_lret, c_cpy, c_callV, c_callS, tkA, lget, lput, lkill, jpush, vsz, jcat, lins, lent, List.length_cons, List.length_nil, List.replicate, List.append_nil, List.cons_append, List.nil_append, reduceIte, Nat.reduceAdd, Nat.reduceSub, Nat.reduceEqDiff, true_and, and_true, Nat.reduceLeDiff, Nat.lt_irrefl, Nat.succ_ne_self, forall_const, ne_eq, not_true_eq_false, not_false_eq_true, false_implies, implies_true, true_implies, true_or, or_true, or_false, false_or, eq_self, Int.reduceEq, Int.reduceLT, Int.reduceLE, Int.reduceNeg, Int.reduceToNat, Int.reduceAdd, Int.reduceSub, Int.reduceMul, Int.reduceNe, and_self]
  refine ok_LB_hasRealm hR ?_
  simp only [c_ic, c_lc, c_nul, c_il, c_ll, c_al, c_is, c_ls, c_as, c_inc, c_b2, c_b2n, c_b1, c_d2, c_d2n, c_dsh, c_i2l, c_l2i, c_lcm, c_dup, c_dup2, c_pop, c_j1, c_j2, c_jn, c_sw0, c_sw, c_gI, c_gL, c_gR, c_gS, c_pI, c_pZ, c_pL, c_pR, c_iald, c_ialg, c_iast, c_iasg, c_bald, c_bast, c_lald, c_last, c_aald, c_aals, c_aast, c_alen, c_bnd, c_str, c_bndl, c_bnln, c_sval, c_scod, c_sbal, c_sbln, c_fmt, c_stop, c_iret, c_zret, c_nret, c_aret, c_vret, c_lret, c_cpy, c_callV, c_callS, tkA, lget, lput, lkill, jpush, vsz, jcat, lins, lent, List.length_cons, List.length_nil, List.replicate, List.append_nil, List.cons_append, List.nil_append, reduceIte, Nat.reduceAdd, Nat.reduceSub, Nat.reduceEqDiff, true_and, and_true, Nat.reduceLeDiff, Nat.lt_irrefl, Nat.succ_ne_self, forall_const, ne_eq, not_true_eq_false, not_false_eq_true, false_implies, implies_true, true_implies, true_or, or_true, or_false, false_or, eq_self, Int.reduceEq, Int.reduceLT, Int.reduceLE, Int.reduceNeg, Int.reduceToNat, Int.reduceAdd, Int.reduceSub, Int.reduceMul, Int.reduceNe, and_self]
  refine ⟨fun z => ⟨⟨_, rfl⟩, bad (fun w => by rw [if_pos w.2.1] at z; exact absurd z (by decide))⟩, fun z => ?_⟩
  have hK0 : 0 < K := Classical.byContradiction (fun q => z (if_neg q))
  refine ⟨fun y1 => ⟨⟨_, rfl⟩, bad (by omega)⟩, fun y1 => ⟨fun y2 => ?_, fun y2 => ⟨⟨_, rfl⟩, bad (by omega)⟩⟩⟩
  have hQ := hJx.q (Or.inr hK0)
  have hRW := hQ.2.2.2.2.2.2.2.2.2.1
  generalize hru : σ.1 63 0 = ru at *
  generalize hgg : σ.1 66 0 = G at *
  generalize hww : σ.1 69 0 = W at *
  generalize hvv : σ.1 10 0 34 = v at *
  obtain ⟨-, g2, g3, g4, g5⟩ := p5 c' hc2
  generalize hss : PL c' = ss at *
  have l16 := g2.2.1
  have ok := fun i h => rI_ok (lw := lwO v CL) (ss := ss) hRW hWW hPF i h
  have mo : ∀ (i : Nat) (τ : jM), i ≤ ss.length → (∀ q, q < i → canP K (rI (lwO v CL) ru G F ss W q) (ss.getD q (0, 0)).1 (ss.getD q (0, 0)).2) → (i = ss.length ∨ ¬ canP K (rI (lwO v CL) ru G F ss W i) (ss.getD i (0, 0)).1 (ss.getD i (0, 0)).2) → Fr Sc σ τ → Ct 60 M_MO_run [rf 10 0, .inl c', .inl what] τ (fun y τ' => y = some (.inl (if what = 1 then rP (lwO v CL) ru G F ss W i else if i = ss.length then -1 else i)) ∧ J (N, P) τ') := by
    intro i τ hi hb hend t1
    have hQ1 := (hQ.s1 t1).th (x := 0)
    have hJ1 := (hJx.sc t1).sc (th_sc (v := 0))
    have c26 : (sI τ 10 0 0 0).1 10 0 26 = K := hQ1.1.2.2.2.2.2.1
    have cells : ∀ (υ : jM), Fr Sd (sI τ 10 0 0 0) υ → υ.1 68 0 c' = ss.length ∧ υ.1 10 0 26 = K ∧ ∀ q, q < ss.length → υ.1 67 0 (2 * (16 * c' + q)) = (ss.getD q (0, 0)).1 ∧ υ.1 67 0 (2 * (16 * c' + q) + 1) = (ss.getD q (0, 0)).2 := by
      intro υ u1
      obtain ⟨-, -, e3, e4, -⟩ := hJ1.2.2.2.2.2.2.2.1.2.2.2.2 c' hc2
      rw [hss] at e3 e4
      refine ⟨by rw [u1.i (by unfold Sd Sc; omega)]; exact e3, by rw [u1.i (by unfold Sd Sc; omega)]; exact c26, fun q hq => ?_⟩
      rw [u1.i (by unfold Sd Sc; omega), u1.i (by unfold Sd Sc; omega), show 2 * (16 * c' + q) = 32 * c' + 2 * q by omega]
      exact e4 q hq
    refine i_MO_run (Nat.le_add_right 3 2) (fun At h50 => ?_)
    have key : ∀ (m q : Nat) (υ : jM), q + m = i → Fr Sd (sI τ 10 0 0 0) υ → MI υ N CL → elo (υ.1 69 1) (rI (lwO v CL) ru G F ss W q) → WW K 999 (υ.1 69 1) ∧ PF F (υ.1 69 1) → At 50 [some (rf 10 0), some (.inl c'), some (.inl what), some (.inl q), some (.inl (rP (lwO v CL) ru G F ss W q))] [] υ := by
      intro m
      induction m with
      | zero =>
        intro q υ hq u1 u2 u3 u4
        obtain rfl : q = i := by omega
        refine h50 _ _ _ ?_
        have jj : J (N, P) υ := ⟨n, T, K, F, r, N, P, CL, PL, U, nt, rfl, hJ1.sd u1 u2⟩
        obtain ⟨d1, d2, d3⟩ := cells υ u1
        have fin : w_MO_run_106 At (fun y τ' => y = some (.inl (if what = 1 then rP (lwO v CL) ru G F ss W q else if q = ss.length then -1 else (q : Int))) ∧ J (N, P) τ') 59 [some (rf 10 0), some (.inl c'), some (.inl what), some (.inl q), some (.inl (rP (lwO v CL) ru G F ss W q))] [] υ := by
          simp only [w_MO_run_106, w_MO_run_114, w_MO_run_128, w_MO_run_129, c_ic, c_lc, c_nul, c_il, c_ll, c_al, c_is, c_ls, c_as, c_inc, c_b2, c_b2n, c_b1, c_d2, c_d2n, c_dsh, c_i2l, c_l2i, c_lcm, c_dup, c_dup2, c_pop, c_j1, c_j2, c_jn, c_sw0, c_sw, c_gI, c_gL, c_gR, c_gS, c_pI, c_pZ, c_pL, c_pR, c_iald, c_ialg, c_iast, c_iasg, c_bald, c_bast, c_lald, c_last, c_aald, c_aals, c_aast, c_alen, c_bnd, c_str, c_bndl, c_bnln, c_sval, c_scod, c_sbal, c_sbln, c_fmt, c_stop, c_iret, c_zret, c_nret, c_aret, c_vret, c_lret, c_cpy, c_callV, c_callS, tkA, lget, lput, lkill, jpush, vsz, jcat, lins, lent, List.length_cons, List.length_nil, List.replicate, List.append_nil, List.cons_append, List.nil_append, reduceIte, Nat.reduceAdd, Nat.reduceSub, Nat.reduceEqDiff, true_and, and_true, Nat.reduceLeDiff, Nat.lt_irrefl, Nat.succ_ne_self, forall_const, ne_eq, not_true_eq_false, not_false_eq_true, false_implies, implies_true, true_implies, true_or, or_true, or_false, false_or, eq_self, Int.reduceEq, Int.reduceLT, Int.reduceLE, Int.reduceNeg, Int.reduceToNat, Int.reduceAdd, Int.reduceSub, Int.reduceMul, Int.reduceNe, and_self, Int.toNat_natCast, d1]
          refine ⟨fun w => ⟨⟨by omega, by omega⟩, fun w2 => ?_, fun w2 => ?_⟩, fun w => ?_⟩
          · rw [if_neg w, if_neg (by omega)]; exact ⟨rfl, jj⟩
          · rw [if_neg w, if_pos (by omega)]; exact ⟨rfl, jj⟩
          · rw [if_pos (Classical.not_not.mp w)]; exact ⟨rfl, jj⟩
        have e1 : wr (2 * wr (wr (16 * (c' : Int)) + (q : Int))) = ((2 * (16 * c' + q) : Nat) : Int) := by simp (disch := omega) only [wr_id]; omega
        simp only [w_MO_run_50, c_ic, c_lc, c_nul, c_il, c_ll, c_al, c_is, c_ls, c_as, c_inc, c_b2, c_b2n, c_b1, c_d2, c_d2n, c_dsh, c_i2l, c_l2i, c_lcm, c_dup, c_dup2, c_pop, c_j1, c_j2, c_jn, c_sw0, c_sw, c_gI, c_gL, c_gR, c_gS, c_pI, c_pZ, c_pL, c_pR, c_iald, c_ialg, c_iast, c_iasg, c_bald, c_bast, c_lald, c_last, c_aald, c_aals, c_aast, c_alen, c_bnd, c_str, c_bndl, c_bnln, c_sval, c_scod, c_sbal, c_sbln, c_fmt, c_stop, c_iret, c_zret, c_nret, c_aret, c_vret, c_lret, c_cpy, c_callV, c_callS, tkA, lget, lput, lkill, jpush, vsz, jcat, lins, lent, List.length_cons, List.length_nil, List.replicate, List.append_nil, List.cons_append, List.nil_append, reduceIte, Nat.reduceAdd, Nat.reduceSub, Nat.reduceEqDiff, true_and, and_true, Nat.reduceLeDiff, Nat.lt_irrefl, Nat.succ_ne_self, forall_const, ne_eq, not_true_eq_false, not_false_eq_true, false_implies, implies_true, true_implies, true_or, or_true, or_false, false_or, eq_self, Int.reduceEq, Int.reduceLT, Int.reduceLE, Int.reduceNeg, Int.reduceToNat, Int.reduceAdd, Int.reduceSub, Int.reduceMul, Int.reduceNe, and_self, Int.toNat_natCast, d1, e1]
        refine ⟨⟨by omega, by omega⟩, fun w => fin, fun w => ?_⟩
        have hq2 : q < ss.length := by omega
        refine ok_MO_canStep (K := K) (j := 1) d2 K4 hK0 (d3 q hq2).1 (d3 q hq2).2 (by omega) (g5 _ (getD_mem2 hq2)) (fun w2 => ?_) (fun w2 => ?_)
        · rcases hend with h | h
          · omega
          · exact absurd ((u3.canE K4).mp w2) h
        · simp only [c_ic, c_lc, c_nul, c_il, c_ll, c_al, c_is, c_ls, c_as, c_inc, c_b2, c_b2n, c_b1, c_d2, c_d2n, c_dsh, c_i2l, c_l2i, c_lcm, c_dup, c_dup2, c_pop, c_j1, c_j2, c_jn, c_sw0, c_sw, c_gI, c_gL, c_gR, c_gS, c_pI, c_pZ, c_pL, c_pR, c_iald, c_ialg, c_iast, c_iasg, c_bald, c_bast, c_lald, c_last, c_aald, c_aals, c_aast, c_alen, c_bnd, c_str, c_bndl, c_bnln, c_sval, c_scod, c_sbal, c_sbln, c_fmt, c_stop, c_iret, c_zret, c_nret, c_aret, c_vret, c_lret, c_cpy, c_callV, c_callS, tkA, lget, lput, lkill, jpush, vsz, jcat, lins, lent, List.length_cons, List.length_nil, List.replicate, List.append_nil, List.cons_append, List.nil_append, reduceIte, Nat.reduceAdd, Nat.reduceSub, Nat.reduceEqDiff, true_and, and_true, Nat.reduceLeDiff, Nat.lt_irrefl, Nat.succ_ne_self, forall_const, ne_eq, not_true_eq_false, not_false_eq_true, false_implies, implies_true, true_implies, true_or, or_true, or_false, false_or, eq_self, Int.reduceEq, Int.reduceLT, Int.reduceLE, Int.reduceNeg, Int.reduceToNat, Int.reduceAdd, Int.reduceSub, Int.reduceMul, Int.reduceNe, and_self]
          exact fin
      | succ m ih =>
        intro q υ hq u1 u2 u3 u4
        refine h50 _ _ _ ?_
        obtain ⟨d1, d2, d3⟩ := cells υ u1
        have hq2 : q < ss.length := by omega
        have e1 : wr (2 * wr (wr (16 * (c' : Int)) + (q : Int))) = ((2 * (16 * c' + q) : Nat) : Int) := by simp (disch := omega) only [wr_id]; omega
        have okq := ok q (fun p hp => hb p (by omega))
        have hcq := hb q (by omega)
        simp only [w_MO_run_50, c_ic, c_lc, c_nul, c_il, c_ll, c_al, c_is, c_ls, c_as, c_inc, c_b2, c_b2n, c_b1, c_d2, c_d2n, c_dsh, c_i2l, c_l2i, c_lcm, c_dup, c_dup2, c_pop, c_j1, c_j2, c_jn, c_sw0, c_sw, c_gI, c_gL, c_gR, c_gS, c_pI, c_pZ, c_pL, c_pR, c_iald, c_ialg, c_iast, c_iasg, c_bald, c_bast, c_lald, c_last, c_aald, c_aals, c_aast, c_alen, c_bnd, c_str, c_bndl, c_bnln, c_sval, c_scod, c_sbal, c_sbln, c_fmt, c_stop, c_iret, c_zret, c_nret, c_aret, c_vret, c_lret, c_cpy, c_callV, c_callS, tkA, lget, lput, lkill, jpush, vsz, jcat, lins, lent, List.length_cons, List.length_nil, List.replicate, List.append_nil, List.cons_append, List.nil_append, reduceIte, Nat.reduceAdd, Nat.reduceSub, Nat.reduceEqDiff, true_and, and_true, Nat.reduceLeDiff, Nat.lt_irrefl, Nat.succ_ne_self, forall_const, ne_eq, not_true_eq_false, not_false_eq_true, false_implies, implies_true, true_implies, true_or, or_true, or_false, false_or, eq_self, Int.reduceEq, Int.reduceLT, Int.reduceLE, Int.reduceNeg, Int.reduceToNat, Int.reduceAdd, Int.reduceSub, Int.reduceMul, Int.reduceNe, and_self, Int.toNat_natCast, d1, e1]
        refine ⟨⟨by omega, by omega⟩, fun w => absurd w (by omega), fun w => ?_⟩
        refine ok_MO_canStep (K := K) (j := 1) d2 K4 hK0 (d3 q hq2).1 (d3 q hq2).2 (by omega) (g5 _ (getD_mem2 hq2)) (fun w2 => ?_) (fun w2 => absurd ((u3.canE K4).mpr hcq) w2)
        simp only [c_ic, c_lc, c_nul, c_il, c_ll, c_al, c_is, c_ls, c_as, c_inc, c_b2, c_b2n, c_b1, c_d2, c_d2n, c_dsh, c_i2l, c_l2i, c_lcm, c_dup, c_dup2, c_pop, c_j1, c_j2, c_jn, c_sw0, c_sw, c_gI, c_gL, c_gR, c_gS, c_pI, c_pZ, c_pL, c_pR, c_iald, c_ialg, c_iast, c_iasg, c_bald, c_bast, c_lald, c_last, c_aald, c_aals, c_aast, c_alen, c_bnd, c_str, c_bndl, c_bnln, c_sval, c_scod, c_sbal, c_sbln, c_fmt, c_stop, c_iret, c_zret, c_nret, c_aret, c_vret, c_lret, c_cpy, c_callV, c_callS, tkA, lget, lput, lkill, jpush, vsz, jcat, lins, lent, List.length_cons, List.length_nil, List.replicate, List.append_nil, List.cons_append, List.nil_append, reduceIte, Nat.reduceAdd, Nat.reduceSub, Nat.reduceEqDiff, true_and, and_true, Nat.reduceLeDiff, Nat.lt_irrefl, Nat.succ_ne_self, forall_const, ne_eq, not_true_eq_false, not_false_eq_true, false_implies, implies_true, true_implies, true_or, or_true, or_false, false_or, eq_self, Int.reduceEq, Int.reduceLT, Int.reduceLE, Int.reduceNeg, Int.reduceToNat, Int.reduceAdd, Int.reduceSub, Int.reduceMul, Int.reduceNe, and_self, e1]
        refine ok_MO_goStep (hQ1.sd u1 u2).jv rfl u4.1 (by decide) (d3 q hq2).1 (d3 q hq2).2 (by omega) (g5 _ (getD_mem2 hq2)) w2 (fun φ f1 f2 f3 => ?_)
        have f1' : Fr Sd υ φ := f1.wk (fun k j o q => q.elim id (fun q => Or.inl (by unfold Sc; omega)))
        rw [u3.stBE hRW okq.1.2.2.2.2.2.1.2]
        have rb := rP_in (lwO v CL) ru G F ss W q
        have eP : rP (lwO v CL) ru G F ss W (q + 1) = rP (lwO v CL) ru G F ss W q + (if stB (lwO v CL) G F (ss.getD q (0, 0)).1 (rI (lwO v CL) ru G F ss W q) = -1 then 0 else 1) := rfl
        have rb2 := rP_in (lwO v CL) ru G F ss W (q + 1)
        rw [eP] at rb2
        simp only [c_ic, c_lc, c_nul, c_il, c_ll, c_al, c_is, c_ls, c_as, c_inc, c_b2, c_b2n, c_b1, c_d2, c_d2n, c_dsh, c_i2l, c_l2i, c_lcm, c_dup, c_dup2, c_pop, c_j1, c_j2, c_jn, c_sw0, c_sw, c_gI, c_gL, c_gR, c_gS, c_pI, c_pZ, c_pL, c_pR, c_iald, c_ialg, c_iast, c_iasg, c_bald, c_bast, c_lald, c_last, c_aald, c_aals, c_aast, c_alen, c_bnd, c_str, c_bndl, c_bnln, c_sval, c_scod, c_sbal, c_sbln, c_fmt, c_stop, c_iret, c_zret, c_nret, c_aret, c_vret, c_lret, c_cpy, c_callV, c_callS, tkA, lget, lput, lkill, jpush, vsz, jcat, lins, lent, List.length_cons, List.length_nil, List.replicate, List.append_nil, List.cons_append, List.nil_append, reduceIte, Nat.reduceAdd, Nat.reduceSub, Nat.reduceEqDiff, true_and, and_true, Nat.reduceLeDiff, Nat.lt_irrefl, Nat.succ_ne_self, forall_const, ne_eq, not_true_eq_false, not_false_eq_true, false_implies, implies_true, true_implies, true_or, or_true, or_false, false_or, eq_self, Int.reduceEq, Int.reduceLT, Int.reduceLE, Int.reduceNeg, Int.reduceToNat, Int.reduceAdd, Int.reduceSub, Int.reduceMul, Int.reduceNe, and_self, inc_nat (show q ≤ 100000 by omega)]
        rw [wr_id (by omega) (by omega), ← eP]
        refine ih (q + 1) φ (by omega) (u1.tr f1') f2 ?_ ?_
        · rw [f3]; exact u3.stpE hRW okq.1 hcq
        · rw [f3]; exact stpOK hRW u4.1 u4.2 w2
    simp only [w_MO_run_0, w_MO_run_34, c_ic, c_lc, c_nul, c_il, c_ll, c_al, c_is, c_ls, c_as, c_inc, c_b2, c_b2n, c_b1, c_d2, c_d2n, c_dsh, c_i2l, c_l2i, c_lcm, c_dup, c_dup2, c_pop, c_j1, c_j2, c_jn, c_sw0, c_sw, c_gI, c_gL, c_gR, c_gS, c_pI, c_pZ, c_pL, c_pR, c_iald, c_ialg, c_iast, c_iasg, c_bald, c_bast, c_lald, c_last, c_aald, c_aals, c_aast, c_alen, c_bnd, c_str, c_bndl, c_bnln, c_sval, c_scod, c_sbal, c_sbln, c_fmt, c_stop, c_iret, c_zret, c_nret, c_aret, c_vret, c_lret, c_cpy, c_callV, c_callS, tkA, lget, lput, lkill, jpush, vsz, jcat, lins, lent, List.length_cons, List.length_nil, List.replicate, List.append_nil, List.cons_append, List.nil_append, reduceIte, Nat.reduceAdd, Nat.reduceSub, Nat.reduceEqDiff, true_and, and_true, Nat.reduceLeDiff, Nat.lt_irrefl, Nat.succ_ne_self, forall_const, ne_eq, not_true_eq_false, not_false_eq_true, false_implies, implies_true, true_implies, true_or, or_true, or_false, false_or, eq_self, Int.reduceEq, Int.reduceLT, Int.reduceLE, Int.reduceNeg, Int.reduceToNat, Int.reduceAdd, Int.reduceSub, Int.reduceMul, Int.reduceNe, and_self]
    refine ok_MO_isPlan (P := P) hJ1.2.2.2.2.2.2.2.1.2.2.1 ?_
    rw [if_pos (by omega)]
    simp only [c_ic, c_lc, c_nul, c_il, c_ll, c_al, c_is, c_ls, c_as, c_inc, c_b2, c_b2n, c_b1, c_d2, c_d2n, c_dsh, c_i2l, c_l2i, c_lcm, c_dup, c_dup2, c_pop, c_j1, c_j2, c_jn, c_sw0, c_sw, c_gI, c_gL, c_gR, c_gS, c_pI, c_pZ, c_pL, c_pR, c_iald, c_ialg, c_iast, c_iasg, c_bald, c_bast, c_lald, c_last, c_aald, c_aals, c_aast, c_alen, c_bnd, c_str, c_bndl, c_bnln, c_sval, c_scod, c_sbal, c_sbln, c_fmt, c_stop, c_iret, c_zret, c_nret, c_aret, c_vret, c_lret, c_cpy, c_callV, c_callS, tkA, lget, lput, lkill, jpush, vsz, jcat, lins, lent, List.length_cons, List.length_nil, List.replicate, List.append_nil, List.cons_append, List.nil_append, reduceIte, Nat.reduceAdd, Nat.reduceSub, Nat.reduceEqDiff, true_and, and_true, Nat.reduceLeDiff, Nat.lt_irrefl, Nat.succ_ne_self, forall_const, ne_eq, not_true_eq_false, not_false_eq_true, false_implies, implies_true, true_implies, true_or, or_true, or_false, false_or, eq_self, Int.reduceEq, Int.reduceLT, Int.reduceLE, Int.reduceNeg, Int.reduceToNat, Int.reduceAdd, Int.reduceSub, Int.reduceMul, Int.reduceNe, and_self, c26]
    refine ⟨fun w => absurd w (by omega), fun _ => ?_⟩
    refine ok_MO_isIn ?_
    rw [if_pos (by omega)]
    simp only [c_ic, c_lc, c_nul, c_il, c_ll, c_al, c_is, c_ls, c_as, c_inc, c_b2, c_b2n, c_b1, c_d2, c_d2n, c_dsh, c_i2l, c_l2i, c_lcm, c_dup, c_dup2, c_pop, c_j1, c_j2, c_jn, c_sw0, c_sw, c_gI, c_gL, c_gR, c_gS, c_pI, c_pZ, c_pL, c_pR, c_iald, c_ialg, c_iast, c_iasg, c_bald, c_bast, c_lald, c_last, c_aald, c_aals, c_aast, c_alen, c_bnd, c_str, c_bndl, c_bnln, c_sval, c_scod, c_sbal, c_sbln, c_fmt, c_stop, c_iret, c_zret, c_nret, c_aret, c_vret, c_lret, c_cpy, c_callV, c_callS, tkA, lget, lput, lkill, jpush, vsz, jcat, lins, lent, List.length_cons, List.length_nil, List.replicate, List.append_nil, List.cons_append, List.nil_append, reduceIte, Nat.reduceAdd, Nat.reduceSub, Nat.reduceEqDiff, true_and, and_true, Nat.reduceLeDiff, Nat.lt_irrefl, Nat.succ_ne_self, forall_const, ne_eq, not_true_eq_false, not_false_eq_true, false_implies, implies_true, true_implies, true_or, or_true, or_false, false_or, eq_self, Int.reduceEq, Int.reduceLT, Int.reduceLE, Int.reduceNeg, Int.reduceToNat, Int.reduceAdd, Int.reduceSub, Int.reduceMul, Int.reduceNe, and_self]
    refine ok_MO_copy (by decide) (fun υ u1 u2 => ?_)
    have e69 : (sI τ 10 0 0 0).1 69 0 = W := hQ1.2.2.2.2.2.2.2.1
    rw [e69] at u2
    have u1' : Fr Sc (sI τ 10 0 0 0) υ := u1.wk (fun k j o q => by unfold Sc; omega)
    have el : elo (υ.1 69 1) W := by rw [u2]; exact cut_elo _ _
    simp only [c_ic, c_lc, c_nul, c_il, c_ll, c_al, c_is, c_ls, c_as, c_inc, c_b2, c_b2n, c_b1, c_d2, c_d2n, c_dsh, c_i2l, c_l2i, c_lcm, c_dup, c_dup2, c_pop, c_j1, c_j2, c_jn, c_sw0, c_sw, c_gI, c_gL, c_gR, c_gS, c_pI, c_pZ, c_pL, c_pR, c_iald, c_ialg, c_iast, c_iasg, c_bald, c_bast, c_lald, c_last, c_aald, c_aals, c_aast, c_alen, c_bnd, c_str, c_bndl, c_bnln, c_sval, c_scod, c_sbal, c_sbln, c_fmt, c_stop, c_iret, c_zret, c_nret, c_aret, c_vret, c_lret, c_cpy, c_callV, c_callS, tkA, lget, lput, lkill, jpush, vsz, jcat, lins, lent, List.length_cons, List.length_nil, List.replicate, List.append_nil, List.cons_append, List.nil_append, reduceIte, Nat.reduceAdd, Nat.reduceSub, Nat.reduceEqDiff, true_and, and_true, Nat.reduceLeDiff, Nat.lt_irrefl, Nat.succ_ne_self, forall_const, ne_eq, not_true_eq_false, not_false_eq_true, false_implies, implies_true, true_implies, true_or, or_true, or_false, false_or, eq_self, Int.reduceEq, Int.reduceLT, Int.reduceLE, Int.reduceNeg, Int.reduceToNat, Int.reduceAdd, Int.reduceSub, Int.reduceMul, Int.reduceNe, and_self]
    have := key i 0 υ (Nat.zero_add _) (u1'.wk (fun _ _ _ q => Or.inl q)) (hQ1.2.2.1.sc u1') el ⟨WW.cut K4 hWW el (by rw [u2, up_eq]), PF.elo el h19.2 hPF⟩
    exact this
  have key : ∀ (m q : Nat) (τ : jM) (x6 : Option jV), q + m = ss.length → (∀ p, p < q → canP K (rI (lwO v CL) ru G F ss W p) (ss.getD p (0, 0)).1 (ss.getD p (0, 0)).2) → Fr Sc σ τ → CW τ 1 K (rI (lwO v CL) ru G F ss W q) → At 46 [some (rf 9 0), some (.inl c'), some (.inl what), some (rf 1 c'), some (.inl (rP (lwO v CL) ru G F ss W q)), some (.inl q), x6] [] τ := by
    intro m
    induction m with
    | zero =>
      intro q τ x6 hq hb t1 t2
      refine h46 _ _ _ ?_
      have s1 : τ.1 1 c' 2 = ss.length := by rw [t1.i (by unfold Sc; omega)]; exact g2.1
      have mo1 := mo q τ (by omega) hb (Or.inl (by omega)) t1
      simp only [w_LB_run_46, w_LB_run_126, w_LB_run_134, w_LB_run_147, w_LB_run_149, c_ic, c_lc, c_nul, c_il, c_ll, c_al, c_is, c_ls, c_as, c_inc, c_b2, c_b2n, c_b1, c_d2, c_d2n, c_dsh, c_i2l, c_l2i, c_lcm, c_dup, c_dup2, c_pop, c_j1, c_j2, c_jn, c_sw0, c_sw, c_gI, c_gL, c_gR, c_gS, c_pI, c_pZ, c_pL, c_pR, c_iald, c_ialg, c_iast, c_iasg, c_bald, c_bast, c_lald, c_last, c_aald, c_aals, c_aast, c_alen, c_bnd, c_str, c_bndl, c_bnln, c_sval, c_scod, c_sbal, c_sbln, c_fmt, c_stop, c_iret, c_zret, c_nret, c_aret, c_vret, c_lret, c_cpy, c_callV, c_callS, tkA, lget, lput, lkill, jpush, vsz, jcat, lins, lent, List.length_cons, List.length_nil, List.replicate, List.append_nil, List.cons_append, List.nil_append, reduceIte, Nat.reduceAdd, Nat.reduceSub, Nat.reduceEqDiff, true_and, and_true, Nat.reduceLeDiff, Nat.lt_irrefl, Nat.succ_ne_self, forall_const, ne_eq, not_true_eq_false, not_false_eq_true, false_implies, implies_true, true_implies, true_or, or_true, or_false, false_or, eq_self, Int.reduceEq, Int.reduceLT, Int.reduceLE, Int.reduceNeg, Int.reduceToNat, Int.reduceAdd, Int.reduceSub, Int.reduceMul, Int.reduceNe, and_self, s1]
      refine ⟨fun _ => ⟨fun w => ⟨fun w2 => absurd w2 (by omega), fun w2 => ⟨⟨_, rfl⟩, ?_⟩⟩, fun w => ⟨⟨_, rfl⟩, ?_⟩⟩, fun w => absurd w (by omega)⟩
      · rw [if_neg w, if_pos (by omega)] at mo1; exact mo1
      · rw [if_pos (Classical.not_not.mp w)] at mo1; exact mo1
    | succ m ih =>
      intro q τ x6 hq hb t1 t2
      refine h46 _ _ _ ?_
      have hq2 : q < ss.length := by omega
      have hQ1 := hQ.s1 t1
      have s1 : τ.1 1 c' 2 = ss.length := by rw [t1.i (by unfold Sc; omega)]; exact g2.1
      have s2 : τ.1 21 c' q = (ss.getD q (0, 0)).1 := by rw [t1.i (by unfold Sc; omega)]; exact (g2.2.2 q hq2).1
      have s3 : τ.1 22 c' q = (ss.getD q (0, 0)).2 := by rw [t1.i (by unfold Sc; omega)]; exact (g2.2.2 q hq2).2
      have okq := ok q hb
      simp only [w_LB_run_46, c_ic, c_lc, c_nul, c_il, c_ll, c_al, c_is, c_ls, c_as, c_inc, c_b2, c_b2n, c_b1, c_d2, c_d2n, c_dsh, c_i2l, c_l2i, c_lcm, c_dup, c_dup2, c_pop, c_j1, c_j2, c_jn, c_sw0, c_sw, c_gI, c_gL, c_gR, c_gS, c_pI, c_pZ, c_pL, c_pR, c_iald, c_ialg, c_iast, c_iasg, c_bald, c_bast, c_lald, c_last, c_aald, c_aals, c_aast, c_alen, c_bnd, c_str, c_bndl, c_bnln, c_sval, c_scod, c_sbal, c_sbln, c_fmt, c_stop, c_iret, c_zret, c_nret, c_aret, c_vret, c_lret, c_cpy, c_callV, c_callS, tkA, lget, lput, lkill, jpush, vsz, jcat, lins, lent, List.length_cons, List.length_nil, List.replicate, List.append_nil, List.cons_append, List.nil_append, reduceIte, Nat.reduceAdd, Nat.reduceSub, Nat.reduceEqDiff, true_and, and_true, Nat.reduceLeDiff, Nat.lt_irrefl, Nat.succ_ne_self, forall_const, ne_eq, not_true_eq_false, not_false_eq_true, false_implies, implies_true, true_implies, true_or, or_true, or_false, false_or, eq_self, Int.reduceEq, Int.reduceLT, Int.reduceLE, Int.reduceNeg, Int.reduceToNat, Int.reduceAdd, Int.reduceSub, Int.reduceMul, Int.reduceNe, and_self, Int.toNat_natCast, s1, s2, s3]
      refine ⟨fun w => absurd w (by omega), fun _ => ⟨⟨by omega, by omega⟩, ⟨by omega, by omega⟩, ?_⟩⟩
      refine ok_LB_canStep hQ1.1 t2 (fun w => ?_) (fun w => ?_)
      · simp only [c_ic, c_lc, c_nul, c_il, c_ll, c_al, c_is, c_ls, c_as, c_inc, c_b2, c_b2n, c_b1, c_d2, c_d2n, c_dsh, c_i2l, c_l2i, c_lcm, c_dup, c_dup2, c_pop, c_j1, c_j2, c_jn, c_sw0, c_sw, c_gI, c_gL, c_gR, c_gS, c_pI, c_pZ, c_pL, c_pR, c_iald, c_ialg, c_iast, c_iasg, c_bald, c_bast, c_lald, c_last, c_aald, c_aals, c_aast, c_alen, c_bnd, c_str, c_bndl, c_bnln, c_sval, c_scod, c_sbal, c_sbln, c_fmt, c_stop, c_iret, c_zret, c_nret, c_aret, c_vret, c_lret, c_cpy, c_callV, c_callS, tkA, lget, lput, lkill, jpush, vsz, jcat, lins, lent, List.length_cons, List.length_nil, List.replicate, List.append_nil, List.cons_append, List.nil_append, reduceIte, Nat.reduceAdd, Nat.reduceSub, Nat.reduceEqDiff, true_and, and_true, Nat.reduceLeDiff, Nat.lt_irrefl, Nat.succ_ne_self, forall_const, ne_eq, not_true_eq_false, not_false_eq_true, false_implies, implies_true, true_implies, true_or, or_true, or_false, false_or, eq_self, Int.reduceEq, Int.reduceLT, Int.reduceLE, Int.reduceNeg, Int.reduceToNat, Int.reduceAdd, Int.reduceSub, Int.reduceMul, Int.reduceNe, and_self, Int.toNat_natCast, s2, s3]
        refine ⟨⟨by omega, by omega⟩, ⟨by omega, by omega⟩, ?_⟩
        refine ok_LB_takeStep hQ1.1 hQ1.2.2.2.2.2.1 hQ1.2.2.2.2.2.2.1 hQ1.2.1 hQ1.2.2.1 hQ1.2.2.2.2.2.2.2.2.1 t2 okq.1 (by decide) w (fun υ u1 u2 => ?_)
        have rb := rP_in (lwO v CL) ru G F ss W q
        have nxt := ih (q + 1) υ (some (.inl (stB (lwO v CL) G F (ss.getD q (0, 0)).1 (rI (lwO v CL) ru G F ss W q)))) (by omega) (fun p hp => by
          by_cases y : p = q
          · rw [y]; exact w
          · exact hb p (by omega)) (t1.tr (u1.wk (fun _ _ _ q => SY1.c q))) u2
        rw [show rP (lwO v CL) ru G F ss W (q + 1) = rP (lwO v CL) ru G F ss W q + (if stB (lwO v CL) G F (ss.getD q (0, 0)).1 (rI (lwO v CL) ru G F ss W q) = -1 then 0 else 1) from rfl] at nxt
        simp only [w_LB_run_116, w_LB_run_117, c_ic, c_lc, c_nul, c_il, c_ll, c_al, c_is, c_ls, c_as, c_inc, c_b2, c_b2n, c_b1, c_d2, c_d2n, c_dsh, c_i2l, c_l2i, c_lcm, c_dup, c_dup2, c_pop, c_j1, c_j2, c_jn, c_sw0, c_sw, c_gI, c_gL, c_gR, c_gS, c_pI, c_pZ, c_pL, c_pR, c_iald, c_ialg, c_iast, c_iasg, c_bald, c_bast, c_lald, c_last, c_aald, c_aals, c_aast, c_alen, c_bnd, c_str, c_bndl, c_bnln, c_sval, c_scod, c_sbal, c_sbln, c_fmt, c_stop, c_iret, c_zret, c_nret, c_aret, c_vret, c_lret, c_cpy, c_callV, c_callS, tkA, lget, lput, lkill, jpush, vsz, jcat, lins, lent, List.length_cons, List.length_nil, List.replicate, List.append_nil, List.cons_append, List.nil_append, reduceIte, Nat.reduceAdd, Nat.reduceSub, Nat.reduceEqDiff, true_and, and_true, Nat.reduceLeDiff, Nat.lt_irrefl, Nat.succ_ne_self, forall_const, ne_eq, not_true_eq_false, not_false_eq_true, false_implies, implies_true, true_implies, true_or, or_true, or_false, false_or, eq_self, Int.reduceEq, Int.reduceLT, Int.reduceLE, Int.reduceNeg, Int.reduceToNat, Int.reduceAdd, Int.reduceSub, Int.reduceMul, Int.reduceNe, and_self, inc_nat (show q ≤ 100000 by omega)]
        refine ⟨fun y => ?_, fun y => ?_⟩
        · rw [if_neg y] at nxt
          rw [wr_id (by omega) (by omega)]
          exact nxt
        · rw [if_pos (Classical.not_not.mp y)] at nxt
          rw [wr_id (by omega) (by omega)]
          exact nxt
      · have mo1 := mo q τ (by omega) hb (Or.inr w) t1
        simp only [w_LB_run_126, w_LB_run_134, w_LB_run_147, w_LB_run_149, c_ic, c_lc, c_nul, c_il, c_ll, c_al, c_is, c_ls, c_as, c_inc, c_b2, c_b2n, c_b1, c_d2, c_d2n, c_dsh, c_i2l, c_l2i, c_lcm, c_dup, c_dup2, c_pop, c_j1, c_j2, c_jn, c_sw0, c_sw, c_gI, c_gL, c_gR, c_gS, c_pI, c_pZ, c_pL, c_pR, c_iald, c_ialg, c_iast, c_iasg, c_bald, c_bast, c_lald, c_last, c_aald, c_aals, c_aast, c_alen, c_bnd, c_str, c_bndl, c_bnln, c_sval, c_scod, c_sbal, c_sbln, c_fmt, c_stop, c_iret, c_zret, c_nret, c_aret, c_vret, c_lret, c_cpy, c_callV, c_callS, tkA, lget, lput, lkill, jpush, vsz, jcat, lins, lent, List.length_cons, List.length_nil, List.replicate, List.append_nil, List.cons_append, List.nil_append, reduceIte, Nat.reduceAdd, Nat.reduceSub, Nat.reduceEqDiff, true_and, and_true, Nat.reduceLeDiff, Nat.lt_irrefl, Nat.succ_ne_self, forall_const, ne_eq, not_true_eq_false, not_false_eq_true, false_implies, implies_true, true_implies, true_or, or_true, or_false, false_or, eq_self, Int.reduceEq, Int.reduceLT, Int.reduceLE, Int.reduceNeg, Int.reduceToNat, Int.reduceAdd, Int.reduceSub, Int.reduceMul, Int.reduceNe, and_self, s1]
        refine ⟨fun w => ⟨fun w2 => ⟨⟨_, rfl⟩, ?_⟩, fun w2 => absurd w2 (by omega)⟩, fun w => ⟨⟨_, rfl⟩, ?_⟩⟩
        · rw [if_neg w, if_neg (by omega)] at mo1; exact mo1
        · rw [if_pos (Classical.not_not.mp w)] at mo1; exact mo1
  refine ok_WO_copyFrom (by decide) (fun τ t1 t2 => ?_)
  simp only [c_ic, c_lc, c_nul, c_il, c_ll, c_al, c_is, c_ls, c_as, c_inc, c_b2, c_b2n, c_b1, c_d2, c_d2n, c_dsh, c_i2l, c_l2i, c_lcm, c_dup, c_dup2, c_pop, c_j1, c_j2, c_jn, c_sw0, c_sw, c_gI, c_gL, c_gR, c_gS, c_pI, c_pZ, c_pL, c_pR, c_iald, c_ialg, c_iast, c_iasg, c_bald, c_bast, c_lald, c_last, c_aald, c_aals, c_aast, c_alen, c_bnd, c_str, c_bndl, c_bnln, c_sval, c_scod, c_sbal, c_sbln, c_fmt, c_stop, c_iret, c_zret, c_nret, c_aret, c_vret, c_lret, c_cpy, c_callV, c_callS, tkA, lget, lput, lkill, jpush, vsz, jcat, lins, lent, List.length_cons, List.length_nil, List.replicate, List.append_nil, List.cons_append, List.nil_append, reduceIte, Nat.reduceAdd, Nat.reduceSub, Nat.reduceEqDiff, true_and, and_true, Nat.reduceLeDiff, Nat.lt_irrefl, Nat.succ_ne_self, forall_const, ne_eq, not_true_eq_false, not_false_eq_true, false_implies, implies_true, true_implies, true_or, or_true, or_false, false_or, eq_self, Int.reduceEq, Int.reduceLT, Int.reduceLE, Int.reduceNeg, Int.reduceToNat, Int.reduceAdd, Int.reduceSub, Int.reduceMul, Int.reduceNe, and_self]
  have := key ss.length 0 τ none (Nat.zero_add _) (fun p hp => absurd hp (Nat.not_lt_zero p)) (t1.wk (fun k j o q => by unfold SW at q; unfold Sc; omega)) (t2 K W K4 h19.2 h110.2 hC)
  exact this
/-- the kept worlds along a row of worlds -/
def kU (w : Nat → Nat → Int) (U : List (Nat → Int)) : Nat → List (Nat → Int)
  | 0 => U
  | i + 1 => keepU (kU w U i) (w i)
theorem kU_len {w : Nat → Nat → Int} {U : List (Nat → Int)} (h : U.length ≤ 40) : ∀ i, (kU w U i).length ≤ 40
  | 0 => h
  | i + 1 => by
    unfold kU
    rw [keepU_len (kU_len h i)]
    omega
theorem kU_all {Q : (Nat → Int) → Prop} {w : Nat → Nat → Int} {U : List (Nat → Int)} (h : ∀ V ∈ U, Q V) : ∀ i, (∀ q, q < i → Q (w q)) → ∀ V ∈ kU w U i, Q V
  | 0, _ => h
  | i + 1, hq => keepU_all (kU_all h i (fun q hq' => hq q (by omega))) (hq i (by omega))
theorem Jx.acts {σ τ : jM} {n : Nat} {T : Nat → Int} {K F r N P : Nat} {CL : Nat → List Int} {PL : Nat → List (Int × Int)} {U U' : List (Nat → Int)} {nt : List jN} (h : Jx σ n T K F r N P CL PL U nt) (hF : Fr Sx σ τ) (hA : AK τ K U') (hV : ∀ V ∈ U', WW K 999 V ∧ PF F V) (hU : UM τ U') (hW : JW τ K F) (hM : MI τ N CL) : J (N, P) τ := by
  obtain ⟨h1, h2, h3, h4, h5, h6, h7, h8, h9, h10⟩ := h
  have r2 := h2.2.2.1
  refine ⟨n, T, K, F, r, N, P, CL, PL, U', nt, rfl, h1.fr hF ?_, h2.fr hF ?_, hW, ⟨hA, hV, hU⟩, h5.fr hF ?_, h6.fr hF ?_, hM, h8.fr hF ?_, h9.fr hF ?_, h10.fr hF ?_⟩
  all_goals (intro k j o q w; simp only [fR, fW, fA, fC, fU, fI, fK, fM, fP, fN, fD, fE, fG, fT, Sx, Sc, Sd, SW, SAk, SR, SP, SY] at q w; omega)
theorem pr_perform {c : Int} : Pr M_LB_perform M_MO_perform [.inl c] := by
  intro σ q hJ
  obtain ⟨n, T, K, F, r, N, P, CL, PL, U, nt, rfl, hJx⟩ := id hJ
  obtain ⟨hT, hR, hW, hA, hI, hK, hM, hP, hN, hG⟩ := id hJx
  obtain ⟨q1, -, r2, q2, -, q4, q5, K4, F8, q6⟩ := id hR
  obtain ⟨p4, p1, p2, -, p5⟩ := id hP
  obtain ⟨hC, hWW, hPF⟩ := id hW
  have h40 := hA.1.1
  have bad : ¬ ((0 ≤ c ∧ c < P) ∧ 0 < K) → Ct 60 M_MO_perform [rf 10 0, .inl c] σ (fun y τ' => y = some (.inl (-1)) ∧ J (N, P) τ') := by
    intro hb
    refine i_MO_perform (Nat.le_add_right 2 2) (fun At h24 => ?_)
    simp only [w_MO_perform_0, w_MO_perform_20, c_ic, c_lc, c_nul, c_il, c_ll, c_al, c_is, c_ls, c_as, c_inc, c_b2, c_b2n, c_b1, c_d2, c_d2n, c_dsh, c_i2l, c_l2i, c_lcm, c_dup, c_dup2, c_pop, c_j1, c_j2, c_jn, c_sw0, c_sw, c_gI, c_gL, c_gR, c_gS, c_pI, c_pZ, c_pL, c_pR, c_iald, c_ialg, c_iast, c_iasg, c_bald, c_bast, c_lald, c_last, c_aald, c_aals, c_aast, c_alen, c_bnd, c_str, c_bndl, c_bnln, c_sval, c_scod, c_sbal, c_sbln, c_fmt, c_stop, c_iret, c_zret, c_nret, c_aret, c_vret, c_lret, c_cpy, c_callV, c_callS, tkA, lget, lput, lkill, jpush, vsz, jcat, lins, lent, List.length_cons, List.length_nil, List.replicate, List.append_nil, List.cons_append, List.nil_append, reduceIte, Nat.reduceAdd, Nat.reduceSub, Nat.reduceEqDiff, true_and, and_true, Nat.reduceLeDiff, Nat.lt_irrefl, Nat.succ_ne_self, forall_const, ne_eq, not_true_eq_false, not_false_eq_true, false_implies, implies_true, true_implies, true_or, or_true, or_false, false_or, eq_self, Int.reduceEq, Int.reduceLT, Int.reduceLE, Int.reduceNeg, Int.reduceToNat, Int.reduceAdd, Int.reduceSub, Int.reduceMul, Int.reduceNe, and_self]
    refine ok_MO_isPlan (P := P) p2 ?_
    simp only [c_ic, c_lc, c_nul, c_il, c_ll, c_al, c_is, c_ls, c_as, c_inc, c_b2, c_b2n, c_b1, c_d2, c_d2n, c_dsh, c_i2l, c_l2i, c_lcm, c_dup, c_dup2, c_pop, c_j1, c_j2, c_jn, c_sw0, c_sw, c_gI, c_gL, c_gR, c_gS, c_pI, c_pZ, c_pL, c_pR, c_iald, c_ialg, c_iast, c_iasg, c_bald, c_bast, c_lald, c_last, c_aald, c_aals, c_aast, c_alen, c_bnd, c_str, c_bndl, c_bnln, c_sval, c_scod, c_sbal, c_sbln, c_fmt, c_stop, c_iret, c_zret, c_nret, c_aret, c_vret, c_lret, c_cpy, c_callV, c_callS, tkA, lget, lput, lkill, jpush, vsz, jcat, lins, lent, List.length_cons, List.length_nil, List.replicate, List.append_nil, List.cons_append, List.nil_append, reduceIte, Nat.reduceAdd, Nat.reduceSub, Nat.reduceEqDiff, true_and, and_true, Nat.reduceLeDiff, Nat.lt_irrefl, Nat.succ_ne_self, forall_const, ne_eq, not_true_eq_false, not_false_eq_true, false_implies, implies_true, true_implies, true_or, or_true, or_false, false_or, eq_self, Int.reduceEq, Int.reduceLT, Int.reduceLE, Int.reduceNeg, Int.reduceToNat, Int.reduceAdd, Int.reduceSub, Int.reduceMul, Int.reduceNe, and_self, g_sI, g_sI2, g_sL1, g_sL, g_sL2, g_sR1, g_sR2, g_sR, g_sA, g_sA2, and_false, false_and, and_self, if_false, if_true, q4]
    refine ⟨fun _ => hJ.sc th_sc, fun z => ⟨fun z2 => absurd hb ?_, fun _ => hJ.sc th_sc⟩⟩
    have z1 : 0 ≤ c ∧ c < P := Classical.byContradiction (fun q => z (if_neg q))
    omega
  refine i_LB_perform (Nat.le_add_right 2 2) (fun At h21 => ?_)
  simp only [w_LB_perform_0, w_LB_perform_17, w_LB_perform_19, c_ic, c_lc, c_nul, c_il, c_ll, c_al, c_is, c_ls, c_as, c_inc, c_b2, c_b2n, c_b1, c_d2, c_d2n, c_dsh, c_i2l, c_l2i, c_lcm, c_dup, c_dup2, c_pop, c_j1, c_j2, c_jn, c_sw0, c_sw, c_gI, c_gL, c_gR, c_gS, c_pI, c_pZ, c_pL, c_pR, c_iald, c_ialg, c_iast, c_iasg, c_bald, c_bast, c_lald, c_last, c_aald, c_aals, c_aast, c_alen, c_bnd, c_str, c_bndl, c_bnln, c_sval, c_scod, c_sbal, c_sbln, c_fmt, c_stop, c_iret, c_zret, c_nret, c_aret, c_vret, c_lret, c_cpy, c_callV, c_callS, tkA, lget, lput, lkill, jpush, vsz, jcat, lins, lent, List.length_cons, List.length_nil, List.replicate, List.append_nil, List.cons_append, List.nil_append, reduceIte, Nat.reduceAdd, Nat.reduceSub, Nat.reduceEqDiff, true_and, and_true, Nat.reduceLeDiff, Nat.lt_irrefl, Nat.succ_ne_self, forall_const, ne_eq, not_true_eq_false, not_false_eq_true, false_implies, implies_true, true_implies, true_or, or_true, or_false, false_or, eq_self, Int.reduceEq, Int.reduceLT, Int.reduceLE, Int.reduceNeg, Int.reduceToNat, Int.reduceAdd, Int.reduceSub, Int.reduceMul, Int.reduceNe, and_self]
  refine ok_LB_campaignOf hP (fun c' hc hc2 => ?_) (fun hn => ?_)
  rotate_left
  · simp only [c_ic, c_lc, c_nul, c_il, c_ll, c_al, c_is, c_ls, c_as, c_inc, c_b2, c_b2n, c_b1, c_d2, c_d2n, c_dsh, c_i2l, c_l2i, c_lcm, c_dup, c_dup2, c_pop, c_j1, c_j2, c_jn, c_sw0, c_sw, c_gI, c_gL, c_gR, c_gS, c_pI, c_pZ, c_pL, c_pR, c_iald, c_ialg, c_iast, c_iasg, c_bald, c_bast, c_lald, c_last, c_aald, c_aals, c_aast, c_alen, c_bnd, c_str, c_bndl, c_bnln, c_sval, c_scod, c_sbal, c_sbln, c_fmt, c_stop, c_iret, c_zret, c_nret, c_aret, c_vret, c_lret, c_cpy, c_callV, c_callS, tkA, lget, lput, lkill, jpush, vsz, jcat, lins, lent, List.length_cons, List.length_nil, List.replicate, List.append_nil, List.cons_append, List.nil_append, reduceIte, Nat.reduceAdd, Nat.reduceSub, Nat.reduceEqDiff, true_and, and_true, Nat.reduceLeDiff, Nat.lt_irrefl, Nat.succ_ne_self, forall_const, ne_eq, not_true_eq_false, not_false_eq_true, false_implies, implies_true, true_implies, true_or, or_true, or_false, false_or, eq_self, Int.reduceEq, Int.reduceLT, Int.reduceLE, Int.reduceNeg, Int.reduceToNat, Int.reduceAdd, Int.reduceSub, Int.reduceMul, Int.reduceNe, and_self]
    exact ⟨⟨_, rfl⟩, bad (fun q => hn q.1)⟩
  subst hc
  simp only [c_ic, c_lc, c_nul, c_il, c_ll, c_al, c_is, c_ls, c_as, c_inc, c_b2, c_b2n, c_b1, c_d2, c_d2n, c_dsh, c_i2l, c_l2i, c_lcm, c_dup, c_dup2, c_pop, c_j1, c_j2, c_jn, c_sw0, c_sw, c_gI, c_gL, c_gR, c_gS, c_pI, c_pZ, c_pL, c_pR, c_iald, c_ialg, c_iast, c_iasg, c_bald, c_bast, c_lald, c_last, c_aald, c_aals, c_aast, c_alen, c_bnd, c_str, c_bndl, c_bnln, c_sval, c_scod, c_sbal, c_sbln, c_fmt, c_stop, c_iret, c_zret, c_nret, c_aret, c_vret, c_lret, c_cpy, c_callV, c_callS, tkA, lget, lput, lkill, jpush, vsz, jcat, lins, lent, List.length_cons, List.length_nil, List.replicate, List.append_nil, List.cons_append, List.nil_append, reduceIte, Nat.reduceAdd, Nat.reduceSub, Nat.reduceEqDiff, true_and, and_true, Nat.reduceLeDiff, Nat.lt_irrefl, Nat.succ_ne_self, forall_const, ne_eq, not_true_eq_false, not_false_eq_true, false_implies, implies_true, true_implies, true_or, or_true, or_false, false_or, eq_self, Int.reduceEq, Int.reduceLT, Int.reduceLE, Int.reduceNeg, Int.reduceToNat, Int.reduceAdd, Int.reduceSub, Int.reduceMul, Int.reduceNe, and_self]
  refine ok_LB_hasRealm hR ?_
  simp only [c_ic, c_lc, c_nul, c_il, c_ll, c_al, c_is, c_ls, c_as, c_inc, c_b2, c_b2n, c_b1, c_d2, c_d2n, c_dsh, c_i2l, c_l2i, c_lcm, c_dup, c_dup2, c_pop, c_j1, c_j2, c_jn, c_sw0, c_sw, c_gI, c_gL, c_gR, c_gS, c_pI, c_pZ, c_pL, c_pR, c_iald, c_ialg, c_iast, c_iasg, c_bald, c_bast, c_lald, c_last, c_aald, c_aals, c_aast, c_alen, c_bnd, c_str, c_bndl, c_bnln, c_sval, c_scod, c_sbal, c_sbln, c_fmt, c_stop, c_iret, c_zret, c_nret, c_aret, c_vret, c_lret, c_cpy, c_callV, c_callS, tkA, lget, lput, lkill, jpush, vsz, jcat, lins, lent, List.length_cons, List.length_nil, List.replicate, List.append_nil, List.cons_append, List.nil_append, reduceIte, Nat.reduceAdd, Nat.reduceSub, Nat.reduceEqDiff, true_and, and_true, Nat.reduceLeDiff, Nat.lt_irrefl, Nat.succ_ne_self, forall_const, ne_eq, not_true_eq_false, not_false_eq_true, false_implies, implies_true, true_implies, true_or, or_true, or_false, false_or, eq_self, Int.reduceEq, Int.reduceLT, Int.reduceLE, Int.reduceNeg, Int.reduceToNat, Int.reduceAdd, Int.reduceSub, Int.reduceMul, Int.reduceNe, and_self]
  refine ⟨fun z => ?_, fun z => ⟨⟨_, rfl⟩, bad (fun w => z (by rw [if_pos w.2]; decide))⟩⟩
  have hK0 : 0 < K := Classical.byContradiction (fun q => z (if_neg q))
  have hQ := hJx.q (Or.inr hK0)
  have hRW := hQ.2.2.2.2.2.2.2.2.2.1
  have hV0 := hQ.jv
  generalize hru : σ.1 63 0 = ru at *
  generalize hgg : σ.1 66 0 = G at *
  generalize hww : σ.1 69 0 = W at *
  generalize hvv : σ.1 10 0 34 = v at *
  obtain ⟨-, g2, g3, g4, g5⟩ := p5 c' hc2
  generalize hss : PL c' = ss at *
  have l16 := g2.2.1
  have ok := fun i h => rI_ok (lw := lwO v CL) (ss := ss) hRW hWW hPF i h
  have mo : ∀ (i : Nat) (τ : jM), i ≤ ss.length → (∀ q, q < i → canP K (rI (lwO v CL) ru G F ss W q) (ss.getD q (0, 0)).1 (ss.getD q (0, 0)).2) → (i = ss.length ∨ ¬ canP K (rI (lwO v CL) ru G F ss W i) (ss.getD i (0, 0)).1 (ss.getD i (0, 0)).2) → Fr (fun k j o => SAk k j o ∨ SY 0 k j o) σ τ → AK τ K (kU (rI (lwO v CL) ru G F ss W) U i) → CW τ 0 K (rI (lwO v CL) ru G F ss W i) → Ct 60 M_MO_perform [rf 10 0, .inl c'] τ (fun y τ' => y = some (.inl i) ∧ J (N, P) τ') := by
    intro i τ hi hb hend t1 t2 t3
    have hM1 : MI (sI τ 10 0 0 0) N CL := (hM.fr t1 (fun k j o q w => by have := SAY w; unfold fM at q; omega)).th
    have t1' : Fr Sx σ (sI τ 10 0 0 0) := (t1.wk (fun k j o q => q.elim (fun q => Or.inl q) (fun q => Or.inr (Or.inl q)))).sI (Or.inr (Or.inr (Or.inl (by unfold Sd Sc; omega))))
    have nS : ∀ k j o, (k = 10 ∧ j = 0 ∧ (o = 26 ∨ o = 30)) ∨ (k = 67) ∨ (k = 68) → ¬ Sx k j o := fun k j o q w => by simp only [Sx, SAk, SY, SW, SP, Sd, Sc, SR] at w; omega
    have hs : ∀ k j o, Sd k j o ∨ SR k j o ∨ (k = 69 ∧ j = 0) → Sx k j o := fun k j o q => q.elim (fun q => Or.inr (Or.inr (Or.inl q))) (fun q => q.elim (fun q => Or.inr (Or.inr (Or.inr (Or.inl q)))) (fun q => Or.inr (Or.inr (Or.inr (Or.inr q)))))
    have cells : ∀ (υ : jM), Fr Sx σ υ → υ.1 68 0 c' = ss.length ∧ υ.1 10 0 26 = K ∧ ∀ q, q < ss.length → υ.1 67 0 (2 * (16 * c' + q)) = (ss.getD q (0, 0)).1 ∧ υ.1 67 0 (2 * (16 * c' + q) + 1) = (ss.getD q (0, 0)).2 := by
      intro υ u1
      refine ⟨by rw [u1.i (nS _ _ _ (by omega))]; exact g3, by rw [u1.i (nS _ _ _ (by omega))]; exact q4, fun q hq => ?_⟩
      rw [u1.i (nS _ _ _ (by omega)), u1.i (nS _ _ _ (by omega)), show 2 * (16 * c' + q) = 32 * c' + 2 * q by omega]
      exact g4 q hq
    refine i_MO_perform (Nat.le_add_right 2 2) (fun At h24 => ?_)
    have key : ∀ (m q : Nat) (υ : jM) (x3 : Option jV), q + m = i → Fr (fun k j o => Sd k j o ∨ SR k j o ∨ (k = 69 ∧ j = 0)) (sI τ 10 0 0 0) υ → MI υ N CL → υ.1 69 0 = rI (lwO v CL) ru G F ss W q → UM υ (kU (rI (lwO v CL) ru G F ss W) U q) → At 24 [some (rf 10 0), some (.inl c'), some (.inl q), x3] [] υ := by
      intro m
      induction m with
      | zero =>
        intro q υ x3 hq u1 u2 u3 u4
        obtain rfl : q = i := by omega
        refine h24 _ _ _ ?_
        have u1' : Fr Sx σ υ := t1'.tr (u1.wk hs)
        have okq := ok q hb
        have jj : J (N, P) υ := by
          refine hJx.acts u1' ?_ ?_ u4 ⟨?_, ?_⟩ u2
          · exact (t2.fr (S := fun k j o => k = 10) (Fr.rf.sI rfl) (fun k j o q w => by unfold fC at q; omega)).fr u1 (fun k j o q w => by simp only [fC, Sd, Sc, SR] at q w; omega)
          · exact kU_all hA.2.1 q (fun p hp => ok p (fun x hx => hb x (by omega)))
          · rw [u3]
            exact (t3.fr (S := fun k j o => k = 10) (Fr.rf.sI rfl) (fun k o q w => by omega)).fr u1 (fun k o q w => by simp only [Sd, Sc, SR] at w; omega)
          · rw [u3]; exact okq
        obtain ⟨d1, d2, d3⟩ := cells υ u1'
        have e1 : wr (2 * wr (wr (16 * (c' : Int)) + (q : Int))) = ((2 * (16 * c' + q) : Nat) : Int) := by simp (disch := omega) only [wr_id]; omega
        simp only [w_MO_perform_24, w_MO_perform_80, c_ic, c_lc, c_nul, c_il, c_ll, c_al, c_is, c_ls, c_as, c_inc, c_b2, c_b2n, c_b1, c_d2, c_d2n, c_dsh, c_i2l, c_l2i, c_lcm, c_dup, c_dup2, c_pop, c_j1, c_j2, c_jn, c_sw0, c_sw, c_gI, c_gL, c_gR, c_gS, c_pI, c_pZ, c_pL, c_pR, c_iald, c_ialg, c_iast, c_iasg, c_bald, c_bast, c_lald, c_last, c_aald, c_aals, c_aast, c_alen, c_bnd, c_str, c_bndl, c_bnln, c_sval, c_scod, c_sbal, c_sbln, c_fmt, c_stop, c_iret, c_zret, c_nret, c_aret, c_vret, c_lret, c_cpy, c_callV, c_callS, tkA, lget, lput, lkill, jpush, vsz, jcat, lins, lent, List.length_cons, List.length_nil, List.replicate, List.append_nil, List.cons_append, List.nil_append, reduceIte, Nat.reduceAdd, Nat.reduceSub, Nat.reduceEqDiff, true_and, and_true, Nat.reduceLeDiff, Nat.lt_irrefl, Nat.succ_ne_self, forall_const, ne_eq, not_true_eq_false, not_false_eq_true, false_implies, implies_true, true_implies, true_or, or_true, or_false, false_or, eq_self, Int.reduceEq, Int.reduceLT, Int.reduceLE, Int.reduceNeg, Int.reduceToNat, Int.reduceAdd, Int.reduceSub, Int.reduceMul, Int.reduceNe, and_self, Int.toNat_natCast, d1, e1]
        refine ⟨⟨by omega, by omega⟩, fun w => jj, fun w => ?_⟩
        have hq2 : q < ss.length := by omega
        refine ok_MO_canStep (K := K) (j := 0) d2 K4 hK0 (d3 q hq2).1 (d3 q hq2).2 (by omega) (g5 _ (getD_mem2 hq2)) (fun w2 => ?_) (fun w2 => ?_)
        · rw [u3] at w2
          rcases hend with h | h
          · omega
          · exact absurd w2 h
        · simp only [c_ic, c_lc, c_nul, c_il, c_ll, c_al, c_is, c_ls, c_as, c_inc, c_b2, c_b2n, c_b1, c_d2, c_d2n, c_dsh, c_i2l, c_l2i, c_lcm, c_dup, c_dup2, c_pop, c_j1, c_j2, c_jn, c_sw0, c_sw, c_gI, c_gL, c_gR, c_gS, c_pI, c_pZ, c_pL, c_pR, c_iald, c_ialg, c_iast, c_iasg, c_bald, c_bast, c_lald, c_last, c_aald, c_aals, c_aast, c_alen, c_bnd, c_str, c_bndl, c_bnln, c_sval, c_scod, c_sbal, c_sbln, c_fmt, c_stop, c_iret, c_zret, c_nret, c_aret, c_vret, c_lret, c_cpy, c_callV, c_callS, tkA, lget, lput, lkill, jpush, vsz, jcat, lins, lent, List.length_cons, List.length_nil, List.replicate, List.append_nil, List.cons_append, List.nil_append, reduceIte, Nat.reduceAdd, Nat.reduceSub, Nat.reduceEqDiff, true_and, and_true, Nat.reduceLeDiff, Nat.lt_irrefl, Nat.succ_ne_self, forall_const, ne_eq, not_true_eq_false, not_false_eq_true, false_implies, implies_true, true_implies, true_or, or_true, or_false, false_or, eq_self, Int.reduceEq, Int.reduceLT, Int.reduceLE, Int.reduceNeg, Int.reduceToNat, Int.reduceAdd, Int.reduceSub, Int.reduceMul, Int.reduceNe, and_self]
          exact jj
      | succ m ih =>
        intro q υ x3 hq u1 u2 u3 u4
        refine h24 _ _ _ ?_
        have u1' : Fr Sx σ υ := t1'.tr (u1.wk hs)
        obtain ⟨d1, d2, d3⟩ := cells υ u1'
        have hq2 : q < ss.length := by omega
        have e1 : wr (2 * wr (wr (16 * (c' : Int)) + (q : Int))) = ((2 * (16 * c' + q) : Nat) : Int) := by simp (disch := omega) only [wr_id]; omega
        have okq := ok q (fun p hp => hb p (by omega))
        have hcq := hb q (by omega)
        simp only [w_MO_perform_24, c_ic, c_lc, c_nul, c_il, c_ll, c_al, c_is, c_ls, c_as, c_inc, c_b2, c_b2n, c_b1, c_d2, c_d2n, c_dsh, c_i2l, c_l2i, c_lcm, c_dup, c_dup2, c_pop, c_j1, c_j2, c_jn, c_sw0, c_sw, c_gI, c_gL, c_gR, c_gS, c_pI, c_pZ, c_pL, c_pR, c_iald, c_ialg, c_iast, c_iasg, c_bald, c_bast, c_lald, c_last, c_aald, c_aals, c_aast, c_alen, c_bnd, c_str, c_bndl, c_bnln, c_sval, c_scod, c_sbal, c_sbln, c_fmt, c_stop, c_iret, c_zret, c_nret, c_aret, c_vret, c_lret, c_cpy, c_callV, c_callS, tkA, lget, lput, lkill, jpush, vsz, jcat, lins, lent, List.length_cons, List.length_nil, List.replicate, List.append_nil, List.cons_append, List.nil_append, reduceIte, Nat.reduceAdd, Nat.reduceSub, Nat.reduceEqDiff, true_and, and_true, Nat.reduceLeDiff, Nat.lt_irrefl, Nat.succ_ne_self, forall_const, ne_eq, not_true_eq_false, not_false_eq_true, false_implies, implies_true, true_implies, true_or, or_true, or_false, false_or, eq_self, Int.reduceEq, Int.reduceLT, Int.reduceLE, Int.reduceNeg, Int.reduceToNat, Int.reduceAdd, Int.reduceSub, Int.reduceMul, Int.reduceNe, and_self, Int.toNat_natCast, d1, e1]
        refine ⟨⟨by omega, by omega⟩, fun w => absurd w (by omega), fun w => ?_⟩
        refine ok_MO_canStep (K := K) (j := 0) d2 K4 hK0 (d3 q hq2).1 (d3 q hq2).2 (by omega) (g5 _ (getD_mem2 hq2)) (fun w2 => ?_) (fun w2 => absurd (by rw [u3]; exact hcq) w2)
        simp only [c_ic, c_lc, c_nul, c_il, c_ll, c_al, c_is, c_ls, c_as, c_inc, c_b2, c_b2n, c_b1, c_d2, c_d2n, c_dsh, c_i2l, c_l2i, c_lcm, c_dup, c_dup2, c_pop, c_j1, c_j2, c_jn, c_sw0, c_sw, c_gI, c_gL, c_gR, c_gS, c_pI, c_pZ, c_pL, c_pR, c_iald, c_ialg, c_iast, c_iasg, c_bald, c_bast, c_lald, c_last, c_aald, c_aals, c_aast, c_alen, c_bnd, c_str, c_bndl, c_bnln, c_sval, c_scod, c_sbal, c_sbln, c_fmt, c_stop, c_iret, c_zret, c_nret, c_aret, c_vret, c_lret, c_cpy, c_callV, c_callS, tkA, lget, lput, lkill, jpush, vsz, jcat, lins, lent, List.length_cons, List.length_nil, List.replicate, List.append_nil, List.cons_append, List.nil_append, reduceIte, Nat.reduceAdd, Nat.reduceSub, Nat.reduceEqDiff, true_and, and_true, Nat.reduceLeDiff, Nat.lt_irrefl, Nat.succ_ne_self, forall_const, ne_eq, not_true_eq_false, not_false_eq_true, false_implies, implies_true, true_implies, true_or, or_true, or_false, false_or, eq_self, Int.reduceEq, Int.reduceLT, Int.reduceLE, Int.reduceNeg, Int.reduceToNat, Int.reduceAdd, Int.reduceSub, Int.reduceMul, Int.reduceNe, and_self, e1]
        have hl := kU_len (w := rI (lwO v CL) ru G F ss W) h40 q
        refine ok_MO_remember u4.1 hl (fun φ f1 f2 f3 => ?_)
        have f1' : Fr Sx σ φ := u1'.tr (f1.wk (fun k j o q => hs k j o (Or.inr (Or.inl q))))
        obtain ⟨d1, d2, d3⟩ := cells φ f1'
        have hMφ : MI φ N CL := u2.fr f1 (fun k j o q w => by unfold fM at q; unfold SR at w; omega)
        have e69 : φ.1 69 0 = rI (lwO v CL) ru G F ss W q := by rw [f1.row (fun o w => by unfold SR at w; omega)]; exact u3
        have hJV : JV φ K F r N CL ru G v := hV0.fr f1' (fun k j o q w => by simp only [fR, Sx, SAk, SY, SW, SP, Sd, Sc, SR] at q w; omega) (fun k j o q w => by simp only [fK, Sx, SAk, SY, SW, SP, Sd, Sc, SR] at q w; omega) hMφ
        simp only [c_ic, c_lc, c_nul, c_il, c_ll, c_al, c_is, c_ls, c_as, c_inc, c_b2, c_b2n, c_b1, c_d2, c_d2n, c_dsh, c_i2l, c_l2i, c_lcm, c_dup, c_dup2, c_pop, c_j1, c_j2, c_jn, c_sw0, c_sw, c_gI, c_gL, c_gR, c_gS, c_pI, c_pZ, c_pL, c_pR, c_iald, c_ialg, c_iast, c_iasg, c_bald, c_bast, c_lald, c_last, c_aald, c_aals, c_aast, c_alen, c_bnd, c_str, c_bndl, c_bnln, c_sval, c_scod, c_sbal, c_sbln, c_fmt, c_stop, c_iret, c_zret, c_nret, c_aret, c_vret, c_lret, c_cpy, c_callV, c_callS, tkA, lget, lput, lkill, jpush, vsz, jcat, lins, lent, List.length_cons, List.length_nil, List.replicate, List.append_nil, List.cons_append, List.nil_append, reduceIte, Nat.reduceAdd, Nat.reduceSub, Nat.reduceEqDiff, true_and, and_true, Nat.reduceLeDiff, Nat.lt_irrefl, Nat.succ_ne_self, forall_const, ne_eq, not_true_eq_false, not_false_eq_true, false_implies, implies_true, true_implies, true_or, or_true, or_false, false_or, eq_self, Int.reduceEq, Int.reduceLT, Int.reduceLE, Int.reduceNeg, Int.reduceToNat, Int.reduceAdd, Int.reduceSub, Int.reduceMul, Int.reduceNe, and_self, e1]
        refine ok_MO_goStep hJV e69 okq.1 (by decide) (d3 q hq2).1 (d3 q hq2).2 (by omega) (g5 _ (getD_mem2 hq2)) hcq (fun ψ h1 h2 h3 => ?_)
        simp only [c_ic, c_lc, c_nul, c_il, c_ll, c_al, c_is, c_ls, c_as, c_inc, c_b2, c_b2n, c_b1, c_d2, c_d2n, c_dsh, c_i2l, c_l2i, c_lcm, c_dup, c_dup2, c_pop, c_j1, c_j2, c_jn, c_sw0, c_sw, c_gI, c_gL, c_gR, c_gS, c_pI, c_pZ, c_pL, c_pR, c_iald, c_ialg, c_iast, c_iasg, c_bald, c_bast, c_lald, c_last, c_aald, c_aals, c_aast, c_alen, c_bnd, c_str, c_bndl, c_bnln, c_sval, c_scod, c_sbal, c_sbln, c_fmt, c_stop, c_iret, c_zret, c_nret, c_aret, c_vret, c_lret, c_cpy, c_callV, c_callS, tkA, lget, lput, lkill, jpush, vsz, jcat, lins, lent, List.length_cons, List.length_nil, List.replicate, List.append_nil, List.cons_append, List.nil_append, reduceIte, Nat.reduceAdd, Nat.reduceSub, Nat.reduceEqDiff, true_and, and_true, Nat.reduceLeDiff, Nat.lt_irrefl, Nat.succ_ne_self, forall_const, ne_eq, not_true_eq_false, not_false_eq_true, false_implies, implies_true, true_implies, true_or, or_true, or_false, false_or, eq_self, Int.reduceEq, Int.reduceLT, Int.reduceLE, Int.reduceNeg, Int.reduceToNat, Int.reduceAdd, Int.reduceSub, Int.reduceMul, Int.reduceNe, and_self, inc_nat (show q ≤ 100000 by omega)]
        refine ih (q + 1) ψ _ (by omega) ((u1.tr (f1.wk (fun k j o q => Or.inr (Or.inl q)))).tr (h1.wk (fun k j o q => q.elim (fun q => Or.inl q) (fun q => Or.inr (Or.inr q))))) h2 h3 ?_
        refine UM.keep u4 hl (τ := ψ) ?_ ?_
        · rw [← u3, ← f2]
          exact h1.row (fun o w => by simp only [Sd, Sc] at w; omega)
        · rw [← f3]
          exact h1.i (by simp only [Sd, Sc]; omega)
    simp only [w_MO_perform_0, w_MO_perform_22, c_ic, c_lc, c_nul, c_il, c_ll, c_al, c_is, c_ls, c_as, c_inc, c_b2, c_b2n, c_b1, c_d2, c_d2n, c_dsh, c_i2l, c_l2i, c_lcm, c_dup, c_dup2, c_pop, c_j1, c_j2, c_jn, c_sw0, c_sw, c_gI, c_gL, c_gR, c_gS, c_pI, c_pZ, c_pL, c_pR, c_iald, c_ialg, c_iast, c_iasg, c_bald, c_bast, c_lald, c_last, c_aald, c_aals, c_aast, c_alen, c_bnd, c_str, c_bndl, c_bnln, c_sval, c_scod, c_sbal, c_sbln, c_fmt, c_stop, c_iret, c_zret, c_nret, c_aret, c_vret, c_lret, c_cpy, c_callV, c_callS, tkA, lget, lput, lkill, jpush, vsz, jcat, lins, lent, List.length_cons, List.length_nil, List.replicate, List.append_nil, List.cons_append, List.nil_append, reduceIte, Nat.reduceAdd, Nat.reduceSub, Nat.reduceEqDiff, true_and, and_true, Nat.reduceLeDiff, Nat.lt_irrefl, Nat.succ_ne_self, forall_const, ne_eq, not_true_eq_false, not_false_eq_true, false_implies, implies_true, true_implies, true_or, or_true, or_false, false_or, eq_self, Int.reduceEq, Int.reduceLT, Int.reduceLE, Int.reduceNeg, Int.reduceToNat, Int.reduceAdd, Int.reduceSub, Int.reduceMul, Int.reduceNe, and_self]
    refine ok_MO_isPlan (P := P) (by rw [t1'.i (nS _ _ _ (by omega))]; exact p2) ?_
    rw [if_pos (by omega)]
    have c26 : (sI τ 10 0 0 0).1 10 0 26 = K := by rw [t1'.i (nS _ _ _ (by omega))]; exact q4
    simp only [c_ic, c_lc, c_nul, c_il, c_ll, c_al, c_is, c_ls, c_as, c_inc, c_b2, c_b2n, c_b1, c_d2, c_d2n, c_dsh, c_i2l, c_l2i, c_lcm, c_dup, c_dup2, c_pop, c_j1, c_j2, c_jn, c_sw0, c_sw, c_gI, c_gL, c_gR, c_gS, c_pI, c_pZ, c_pL, c_pR, c_iald, c_ialg, c_iast, c_iasg, c_bald, c_bast, c_lald, c_last, c_aald, c_aals, c_aast, c_alen, c_bnd, c_str, c_bndl, c_bnln, c_sval, c_scod, c_sbal, c_sbln, c_fmt, c_stop, c_iret, c_zret, c_nret, c_aret, c_vret, c_lret, c_cpy, c_callV, c_callS, tkA, lget, lput, lkill, jpush, vsz, jcat, lins, lent, List.length_cons, List.length_nil, List.replicate, List.append_nil, List.cons_append, List.nil_append, reduceIte, Nat.reduceAdd, Nat.reduceSub, Nat.reduceEqDiff, true_and, and_true, Nat.reduceLeDiff, Nat.lt_irrefl, Nat.succ_ne_self, forall_const, ne_eq, not_true_eq_false, not_false_eq_true, false_implies, implies_true, true_implies, true_or, or_true, or_false, false_or, eq_self, Int.reduceEq, Int.reduceLT, Int.reduceLE, Int.reduceNeg, Int.reduceToNat, Int.reduceAdd, Int.reduceSub, Int.reduceMul, Int.reduceNe, and_self, c26]
    refine ⟨fun _ => ?_, fun w => absurd w (by omega)⟩
    have := key i 0 (sI τ 10 0 0 0) none (Nat.zero_add _) Fr.rf hM1 (by rw [sI_rne (by decide), act_r t1 (by omega)]; exact hww) (hA.2.2.fr (S := fun k j o => (SAk k j o ∨ SY 0 k j o) ∨ (k = 10 ∧ o = 0)) ((t1.wk (fun _ _ _ q => Or.inl q)).sI (Or.inr ⟨rfl, rfl⟩)) (fun k j o q w => by simp only [fU, SAk, SY, SW, SP] at q w; omega))
    exact this
  have key : ∀ (m q : Nat) (τ : jM), q + m = ss.length → (∀ p, p < q → canP K (rI (lwO v CL) ru G F ss W p) (ss.getD p (0, 0)).1 (ss.getD p (0, 0)).2) → Fr (fun k j o => SAk k j o ∨ SY 0 k j o) σ τ → AK τ K (kU (rI (lwO v CL) ru G F ss W) U q) → CW τ 0 K (rI (lwO v CL) ru G F ss W q) → At 21 [some (rf 9 0), some (.inl c'), some (rf 1 c'), some (.inl q)] [] τ := by
    have nC : ∀ k j o, k = 1 ∨ k = 21 ∨ k = 22 → ¬ (SAk k j o ∨ SY 0 k j o) := fun k j o q w => by simp only [SAk, SY, SW, SP] at w; omega
    intro m
    induction m with
    | zero =>
      intro q τ hq hb t1 t2 t3
      refine h21 _ _ _ ?_
      have s1 : τ.1 1 c' 2 = ss.length := by rw [t1.i (nC _ _ _ (by omega))]; exact g2.1
      simp only [w_LB_perform_21, w_LB_perform_54, c_ic, c_lc, c_nul, c_il, c_ll, c_al, c_is, c_ls, c_as, c_inc, c_b2, c_b2n, c_b1, c_d2, c_d2n, c_dsh, c_i2l, c_l2i, c_lcm, c_dup, c_dup2, c_pop, c_j1, c_j2, c_jn, c_sw0, c_sw, c_gI, c_gL, c_gR, c_gS, c_pI, c_pZ, c_pL, c_pR, c_iald, c_ialg, c_iast, c_iasg, c_bald, c_bast, c_lald, c_last, c_aald, c_aals, c_aast, c_alen, c_bnd, c_str, c_bndl, c_bnln, c_sval, c_scod, c_sbal, c_sbln, c_fmt, c_stop, c_iret, c_zret, c_nret, c_aret, c_vret, c_lret, c_cpy, c_callV, c_callS, tkA, lget, lput, lkill, jpush, vsz, jcat, lins, lent, List.length_cons, List.length_nil, List.replicate, List.append_nil, List.cons_append, List.nil_append, reduceIte, Nat.reduceAdd, Nat.reduceSub, Nat.reduceEqDiff, true_and, and_true, Nat.reduceLeDiff, Nat.lt_irrefl, Nat.succ_ne_self, forall_const, ne_eq, not_true_eq_false, not_false_eq_true, false_implies, implies_true, true_implies, true_or, or_true, or_false, false_or, eq_self, Int.reduceEq, Int.reduceLT, Int.reduceLE, Int.reduceNeg, Int.reduceToNat, Int.reduceAdd, Int.reduceSub, Int.reduceMul, Int.reduceNe, and_self, s1]
      exact ⟨fun _ => ⟨⟨_, rfl⟩, mo q τ (by omega) hb (Or.inl (by omega)) t1 t2 t3⟩, fun w => absurd w (by omega)⟩
    | succ m ih =>
      intro q τ hq hb t1 t2 t3
      refine h21 _ _ _ ?_
      have hq2 : q < ss.length := by omega
      have s1 : τ.1 1 c' 2 = ss.length := by rw [t1.i (nC _ _ _ (by omega))]; exact g2.1
      have s2 : τ.1 21 c' q = (ss.getD q (0, 0)).1 := by rw [t1.i (nC _ _ _ (by omega))]; exact (g2.2.2 q hq2).1
      have s3 : τ.1 22 c' q = (ss.getD q (0, 0)).2 := by rw [t1.i (nC _ _ _ (by omega))]; exact (g2.2.2 q hq2).2
      have okq := ok q hb
      have hMt : MI τ N CL := hM.fr t1 (fun k j o q w => by have := SAY w; unfold fM at q; omega)
      have hJV : JV τ K F r N CL ru G v := hV0.fr t1 (fun k j o q w => by simp only [fR, SAk, SY, SW, SP] at q w; omega) (fun k j o q w => by simp only [fK, SAk, SY, SW, SP] at q w; omega) hMt
      simp only [w_LB_perform_21, w_LB_perform_54, c_ic, c_lc, c_nul, c_il, c_ll, c_al, c_is, c_ls, c_as, c_inc, c_b2, c_b2n, c_b1, c_d2, c_d2n, c_dsh, c_i2l, c_l2i, c_lcm, c_dup, c_dup2, c_pop, c_j1, c_j2, c_jn, c_sw0, c_sw, c_gI, c_gL, c_gR, c_gS, c_pI, c_pZ, c_pL, c_pR, c_iald, c_ialg, c_iast, c_iasg, c_bald, c_bast, c_lald, c_last, c_aald, c_aals, c_aast, c_alen, c_bnd, c_str, c_bndl, c_bnln, c_sval, c_scod, c_sbal, c_sbln, c_fmt, c_stop, c_iret, c_zret, c_nret, c_aret, c_vret, c_lret, c_cpy, c_callV, c_callS, tkA, lget, lput, lkill, jpush, vsz, jcat, lins, lent, List.length_cons, List.length_nil, List.replicate, List.append_nil, List.cons_append, List.nil_append, reduceIte, Nat.reduceAdd, Nat.reduceSub, Nat.reduceEqDiff, true_and, and_true, Nat.reduceLeDiff, Nat.lt_irrefl, Nat.succ_ne_self, forall_const, ne_eq, not_true_eq_false, not_false_eq_true, false_implies, implies_true, true_implies, true_or, or_true, or_false, false_or, eq_self, Int.reduceEq, Int.reduceLT, Int.reduceLE, Int.reduceNeg, Int.reduceToNat, Int.reduceAdd, Int.reduceSub, Int.reduceMul, Int.reduceNe, and_self, Int.toNat_natCast, s1, s2, s3]
      refine ⟨fun w => absurd w (by omega), fun _ => ⟨⟨by omega, by omega⟩, ⟨by omega, by omega⟩, ?_⟩⟩
      refine ok_LB_act hJV.1 hJV.2.2.2.1 hJV.2.2.2.2.1 hJV.2.1 hMt hJV.2.2.2.2.2.1 t2 t3 okq.1 (by decide) (fun w => ?_) (fun w υ u1 u2 u3 => ?_)
      · simp only [c_ic, c_lc, c_nul, c_il, c_ll, c_al, c_is, c_ls, c_as, c_inc, c_b2, c_b2n, c_b1, c_d2, c_d2n, c_dsh, c_i2l, c_l2i, c_lcm, c_dup, c_dup2, c_pop, c_j1, c_j2, c_jn, c_sw0, c_sw, c_gI, c_gL, c_gR, c_gS, c_pI, c_pZ, c_pL, c_pR, c_iald, c_ialg, c_iast, c_iasg, c_bald, c_bast, c_lald, c_last, c_aald, c_aals, c_aast, c_alen, c_bnd, c_str, c_bndl, c_bnln, c_sval, c_scod, c_sbal, c_sbln, c_fmt, c_stop, c_iret, c_zret, c_nret, c_aret, c_vret, c_lret, c_cpy, c_callV, c_callS, tkA, lget, lput, lkill, jpush, vsz, jcat, lins, lent, List.length_cons, List.length_nil, List.replicate, List.append_nil, List.cons_append, List.nil_append, reduceIte, Nat.reduceAdd, Nat.reduceSub, Nat.reduceEqDiff, true_and, and_true, Nat.reduceLeDiff, Nat.lt_irrefl, Nat.succ_ne_self, forall_const, ne_eq, not_true_eq_false, not_false_eq_true, false_implies, implies_true, true_implies, true_or, or_true, or_false, false_or, eq_self, Int.reduceEq, Int.reduceLT, Int.reduceLE, Int.reduceNeg, Int.reduceToNat, Int.reduceAdd, Int.reduceSub, Int.reduceMul, Int.reduceNe, and_self]
        exact ⟨⟨_, rfl⟩, mo q τ (by omega) hb (Or.inr w) t1 t2 t3⟩
      · simp only [c_ic, c_lc, c_nul, c_il, c_ll, c_al, c_is, c_ls, c_as, c_inc, c_b2, c_b2n, c_b1, c_d2, c_d2n, c_dsh, c_i2l, c_l2i, c_lcm, c_dup, c_dup2, c_pop, c_j1, c_j2, c_jn, c_sw0, c_sw, c_gI, c_gL, c_gR, c_gS, c_pI, c_pZ, c_pL, c_pR, c_iald, c_ialg, c_iast, c_iasg, c_bald, c_bast, c_lald, c_last, c_aald, c_aals, c_aast, c_alen, c_bnd, c_str, c_bndl, c_bnln, c_sval, c_scod, c_sbal, c_sbln, c_fmt, c_stop, c_iret, c_zret, c_nret, c_aret, c_vret, c_lret, c_cpy, c_callV, c_callS, tkA, lget, lput, lkill, jpush, vsz, jcat, lins, lent, List.length_cons, List.length_nil, List.replicate, List.append_nil, List.cons_append, List.nil_append, reduceIte, Nat.reduceAdd, Nat.reduceSub, Nat.reduceEqDiff, true_and, and_true, Nat.reduceLeDiff, Nat.lt_irrefl, Nat.succ_ne_self, forall_const, ne_eq, not_true_eq_false, not_false_eq_true, false_implies, implies_true, true_implies, true_or, or_true, or_false, false_or, eq_self, Int.reduceEq, Int.reduceLT, Int.reduceLE, Int.reduceNeg, Int.reduceToNat, Int.reduceAdd, Int.reduceSub, Int.reduceMul, Int.reduceNe, and_self, inc_nat (show q ≤ 100000 by omega)]
        exact ih (q + 1) υ (by omega) (fun p hp => by
          by_cases y : p = q
          · rw [y]; exact w
          · exact hb p (by omega)) (t1.tr u1) u2 u3
  have := key ss.length 0 σ (Nat.zero_add _) (fun p hp => absurd hp (Nat.not_lt_zero p)) Fr.rf hA.1 hC
  exact this
