/-! ===== 84 pairs: image, back, undo, told, step ===== -/
theorem PF.congr {F : Nat} {V W : Nat → Int} (h19 : W 19 ≤ 30) (h : ∀ p, p < 291 → V p = W p) (hP : PF F W) : PF F V := by
  intro i hi
  rw [h 19 (by omega)] at hi
  rw [h (20 + 3 * i) (by omega)]
  exact hP i hi
theorem cpS_eq {s g : Nat → Int} {p : Nat} (h : p < 291) : cpS s g 0 291 p = s p := by
  have := cp_in (s := s) (g := g) (c0 := 0) h
  rwa [Nat.zero_add] at this
theorem ok_MO_image {σ : jM} {Φ : jPh} {d K : Nat} (hK : σ.1 10 0 26 = K) (h0 : K = 0 → Φ (some (.inl (-1))) (sI σ 10 0 0 0)) (h1 : K ≠ 0 → Φ (some (.inl (σ.1 69 0 18))) (sI (sA (sI σ 10 0 0 0) 77 0 (cpS (σ.1 69 0) (σ.1 77 0) 0 291)) 10 0 47 1)) : Ct (d + 1) M_MO_image [rf 10 0] σ Φ := by
  refine i_MO_image (Nat.le_succ 1) (fun At h16 => ?_)
  simp only [w_MO_image_0, w_MO_image_14, c_ic, c_lc, c_nul, c_il, c_ll, c_al, c_is, c_ls, c_as, c_inc, c_b2, c_b2n, c_b1, c_d2, c_d2n, c_dsh, c_i2l, c_l2i, c_lcm, c_dup, c_dup2, c_pop, c_j1, c_j2, c_jn, c_sw0, c_sw, c_gI, c_gL, c_gR, c_gS, c_pI, c_pZ, c_pL, c_pR, c_iald, c_ialg, c_iast, c_iasg, c_bald, c_bast, c_lald, c_last, c_aald, c_aals, c_aast, c_alen, c_bnd, c_str, c_bndl, c_bnln, c_sval, c_scod, c_sbal, c_sbln, c_fmt, c_stop, c_iret, c_zret, c_nret, c_aret, c_vret, c_lret, c_cpy, c_callV, c_callS, tkA, lget, lput, lkill, jpush, vsz, jcat, lins, lent, List.length_cons, List.length_nil, List.replicate, List.append_nil, List.cons_append, List.nil_append, reduceIte, Nat.reduceAdd, Nat.reduceSub, Nat.reduceEqDiff, true_and, and_true, Nat.reduceLeDiff, Nat.lt_irrefl, Nat.succ_ne_self, forall_const, ne_eq, not_true_eq_false, not_false_eq_true, false_implies, implies_true, true_implies, true_or, or_true, or_false, false_or, eq_self, Int.reduceEq, Int.reduceLT, Int.reduceLE, Int.reduceNeg, Int.reduceToNat, Int.reduceAdd, Int.reduceSub, Int.reduceMul, Int.reduceNe, and_self, g_sI, g_sI2, g_sL1, g_sL, g_sL2, g_sR1, g_sR2, g_sR, g_sA, g_sA2, and_false, false_and, and_self, if_false, if_true, hK]
  refine ⟨fun z => ?_, fun z => h0 (by omega)⟩
  have key : ∀ (m q : Nat), q + m = 291 → At 16 [some (rf 10 0), some (.inl q)] [] (sA (sI σ 10 0 0 0) 77 0 (cpS (σ.1 69 0) (σ.1 77 0) 0 q)) := by
    intro m
    induction m with
    | zero =>
      intro q hq
      refine h16 _ _ _ ?_
      simp only [w_MO_image_16, w_MO_image_41, c_ic, c_lc, c_nul, c_il, c_ll, c_al, c_is, c_ls, c_as, c_inc, c_b2, c_b2n, c_b1, c_d2, c_d2n, c_dsh, c_i2l, c_l2i, c_lcm, c_dup, c_dup2, c_pop, c_j1, c_j2, c_jn, c_sw0, c_sw, c_gI, c_gL, c_gR, c_gS, c_pI, c_pZ, c_pL, c_pR, c_iald, c_ialg, c_iast, c_iasg, c_bald, c_bast, c_lald, c_last, c_aald, c_aals, c_aast, c_alen, c_bnd, c_str, c_bndl, c_bnln, c_sval, c_scod, c_sbal, c_sbln, c_fmt, c_stop, c_iret, c_zret, c_nret, c_aret, c_vret, c_lret, c_cpy, c_callV, c_callS, tkA, lget, lput, lkill, jpush, vsz, jcat, lins, lent, List.length_cons, List.length_nil, List.replicate, List.append_nil, List.cons_append, List.nil_append, reduceIte, Nat.reduceAdd, Nat.reduceSub, Nat.reduceEqDiff, true_and, and_true, Nat.reduceLeDiff, Nat.lt_irrefl, Nat.succ_ne_self, forall_const, ne_eq, not_true_eq_false, not_false_eq_true, false_implies, implies_true, true_implies, true_or, or_true, or_false, false_or, eq_self, Int.reduceEq, Int.reduceLT, Int.reduceLE, Int.reduceNeg, Int.reduceToNat, Int.reduceAdd, Int.reduceSub, Int.reduceMul, Int.reduceNe, and_self, g_sI, g_sI2, g_sL1, g_sL, g_sL2, g_sR1, g_sR2, g_sR, g_sA, g_sA2, and_false, false_and, and_self, if_false, if_true, eT69, eC69, jl69, Nat.reduceLT]
      refine ⟨fun _ => ?_, fun w => absurd w (by omega)⟩
      rw [show q = 291 by omega]
      exact h1 (by omega)
    | succ m ih =>
      intro q hq
      refine h16 _ _ _ ?_
      simp only [w_MO_image_16, c_ic, c_lc, c_nul, c_il, c_ll, c_al, c_is, c_ls, c_as, c_inc, c_b2, c_b2n, c_b1, c_d2, c_d2n, c_dsh, c_i2l, c_l2i, c_lcm, c_dup, c_dup2, c_pop, c_j1, c_j2, c_jn, c_sw0, c_sw, c_gI, c_gL, c_gR, c_gS, c_pI, c_pZ, c_pL, c_pR, c_iald, c_ialg, c_iast, c_iasg, c_bald, c_bast, c_lald, c_last, c_aald, c_aals, c_aast, c_alen, c_bnd, c_str, c_bndl, c_bnln, c_sval, c_scod, c_sbal, c_sbln, c_fmt, c_stop, c_iret, c_zret, c_nret, c_aret, c_vret, c_lret, c_cpy, c_callV, c_callS, tkA, lget, lput, lkill, jpush, vsz, jcat, lins, lent, List.length_cons, List.length_nil, List.replicate, List.append_nil, List.cons_append, List.nil_append, reduceIte, Nat.reduceAdd, Nat.reduceSub, Nat.reduceEqDiff, true_and, and_true, Nat.reduceLeDiff, Nat.lt_irrefl, Nat.succ_ne_self, forall_const, ne_eq, not_true_eq_false, not_false_eq_true, false_implies, implies_true, true_implies, true_or, or_true, or_false, false_or, eq_self, Int.reduceEq, Int.reduceLT, Int.reduceLE, Int.reduceNeg, Int.reduceToNat, Int.reduceAdd, Int.reduceSub, Int.reduceMul, Int.reduceNe, and_self, g_sI, g_sI2, g_sL1, g_sL, g_sL2, g_sR1, g_sR2, g_sR, g_sA, g_sA2, and_false, false_and, and_self, if_false, if_true, eT69, eC69, jl69, Nat.reduceLT, Int.toNat_natCast, inc_nat (show q ≤ 100000 by omega), sA_sI]
      refine ⟨fun w => absurd w (by omega), fun _ => ⟨⟨by omega, by omega⟩, ⟨by omega, by omega⟩, ?_⟩⟩
      have e := cp_step (σ.1 69 0) (σ.1 77 0) 0 q
      rw [Nat.zero_add] at e
      rw [e]
      exact ih (q + 1) (by omega)
  have := key 291 0 rfl
  rw [cp_0] at this
  refine Eq.mp ?_ this
  congr 1
  exact sA_self (sI σ 10 0 0 0) 77 0
theorem pr_image : Pr M_LB_image M_MO_image [] := by
  intro σ q hJ
  have hJ0 := hJ
  obtain ⟨n, T, K, F, r, N, P, CL, PL, U, nt, rfl, hT, hR, hW, hA, hI, hK, hM, hP, hN, hG⟩ := hJ0
  obtain ⟨hC, hWW, hPF⟩ := id hW
  obtain ⟨-, hk, ⟨w1, w2, w3, w4⟩, -⟩ := id hC
  obtain ⟨q1, -, r2, -, q3, q4, q5, K4, F8, -⟩ := id hR
  have h19 := hWW.2.2.2.2.2.1
  have h110 := hWW.2.2.2.2.2.2.2.1
  refine i_LB_image (Nat.le_refl 1) ?_
  simp only [w_LB_image_9, w_LB_image_0, c_ic, c_lc, c_nul, c_il, c_ll, c_al, c_is, c_ls, c_as, c_inc, c_b2, c_b2n, c_b1, c_d2, c_d2n, c_dsh, c_i2l, c_l2i, c_lcm, c_dup, c_dup2, c_pop, c_j1, c_j2, c_jn, c_sw0, c_sw, c_gI, c_gL, c_gR, c_gS, c_pI, c_pZ, c_pL, c_pR, c_iald, c_ialg, c_iast, c_iasg, c_bald, c_bast, c_lald, c_last, c_aald, c_aals, c_aast, c_alen, c_bnd, c_str, c_bndl, c_bnln, c_sval, c_scod, c_sbal, c_sbln, c_fmt, c_stop, c_iret, c_zret, c_nret, c_aret, c_vret, c_lret, c_cpy, c_callV, c_callS, tkA, lget, lput, lkill, jpush, vsz, jcat, lins, lent, List.length_cons, List.length_nil, List.replicate, List.append_nil, List.cons_append, List.nil_append, reduceIte, Nat.reduceAdd, Nat.reduceSub, Nat.reduceEqDiff, true_and, and_true, Nat.reduceLeDiff, Nat.lt_irrefl, Nat.succ_ne_self, forall_const, ne_eq, not_true_eq_false, not_false_eq_true, false_implies, implies_true, true_implies, true_or, or_true, or_false, false_or, eq_self, Int.reduceEq, Int.reduceLT, Int.reduceLE, Int.reduceNeg, Int.reduceToNat, Int.reduceAdd, Int.reduceSub, Int.reduceMul, Int.reduceNe, and_self]
  refine ok_LB_hasRealm hR ?_
  simp only [c_ic, c_lc, c_nul, c_il, c_ll, c_al, c_is, c_ls, c_as, c_inc, c_b2, c_b2n, c_b1, c_d2, c_d2n, c_dsh, c_i2l, c_l2i, c_lcm, c_dup, c_dup2, c_pop, c_j1, c_j2, c_jn, c_sw0, c_sw, c_gI, c_gL, c_gR, c_gS, c_pI, c_pZ, c_pL, c_pR, c_iald, c_ialg, c_iast, c_iasg, c_bald, c_bast, c_lald, c_last, c_aald, c_aals, c_aast, c_alen, c_bnd, c_str, c_bndl, c_bnln, c_sval, c_scod, c_sbal, c_sbln, c_fmt, c_stop, c_iret, c_zret, c_nret, c_aret, c_vret, c_lret, c_cpy, c_callV, c_callS, tkA, lget, lput, lkill, jpush, vsz, jcat, lins, lent, List.length_cons, List.length_nil, List.replicate, List.append_nil, List.cons_append, List.nil_append, reduceIte, Nat.reduceAdd, Nat.reduceSub, Nat.reduceEqDiff, true_and, and_true, Nat.reduceLeDiff, Nat.lt_irrefl, Nat.succ_ne_self, forall_const, ne_eq, not_true_eq_false, not_false_eq_true, false_implies, implies_true, true_implies, true_or, or_true, or_false, false_or, eq_self, Int.reduceEq, Int.reduceLT, Int.reduceLE, Int.reduceNeg, Int.reduceToNat, Int.reduceAdd, Int.reduceSub, Int.reduceMul, Int.reduceNe, and_self]
  refine ⟨fun z => ?_, fun z => ⟨⟨_, rfl⟩, ?_⟩⟩
  · refine ok_WO_copyFrom (by decide) (fun τ t1 t2 => ?_)
    have c11 : τ.1 8 0 11 = σ.1 69 0 18 := by rw [t1.i (by unfold SW; omega)]; exact w4
    have e69 : τ.1 69 0 = σ.1 69 0 := t1.row (fun o w => by unfold SW at w; omega)
    simp only [c_ic, c_lc, c_nul, c_il, c_ll, c_al, c_is, c_ls, c_as, c_inc, c_b2, c_b2n, c_b1, c_d2, c_d2n, c_dsh, c_i2l, c_l2i, c_lcm, c_dup, c_dup2, c_pop, c_j1, c_j2, c_jn, c_sw0, c_sw, c_gI, c_gL, c_gR, c_gS, c_pI, c_pZ, c_pL, c_pR, c_iald, c_ialg, c_iast, c_iasg, c_bald, c_bast, c_lald, c_last, c_aald, c_aals, c_aast, c_alen, c_bnd, c_str, c_bndl, c_bnln, c_sval, c_scod, c_sbal, c_sbln, c_fmt, c_stop, c_iret, c_zret, c_nret, c_aret, c_vret, c_lret, c_cpy, c_callV, c_callS, tkA, lget, lput, lkill, jpush, vsz, jcat, lins, lent, List.length_cons, List.length_nil, List.replicate, List.append_nil, List.cons_append, List.nil_append, reduceIte, Nat.reduceAdd, Nat.reduceSub, Nat.reduceEqDiff, true_and, and_true, Nat.reduceLeDiff, Nat.lt_irrefl, Nat.succ_ne_self, forall_const, ne_eq, not_true_eq_false, not_false_eq_true, false_implies, implies_true, true_implies, true_or, or_true, or_false, false_or, eq_self, Int.reduceEq, Int.reduceLT, Int.reduceLE, Int.reduceNeg, Int.reduceToNat, Int.reduceAdd, Int.reduceSub, Int.reduceMul, Int.reduceNe, and_self, g_sI, g_sI2, g_sL1, g_sL, g_sL2, g_sR1, g_sR2, g_sR, g_sA, g_sA2, and_false, false_and, and_self, if_false, if_true, c11]
    refine ⟨⟨_, rfl⟩, ?_⟩
    refine ok_MO_image (K := K) (by simp only [g_sI, Nat.reduceEqDiff, false_and, if_false]; rw [t1.i (by unfold SW; omega)]; exact q4) (fun w => absurd (if_neg (by omega)) z) (fun _ => ?_)
    have hF : Fr (fun k j o => SW 2 k j o ∨ Sc k j o ∨ fI k j o) σ (sI (sA (sI (sI τ 9 0 1 1) 10 0 0 0) 77 0 (cpS ((sI τ 9 0 1 1).1 69 0) ((sI τ 9 0 1 1).1 77 0) 0 291)) 10 0 47 1) := ((((t1.wk (fun _ _ _ q => Or.inl q)).sI (by unfold fI; omega)).sI (by unfold Sc; omega)).sA (fun o => by unfold fI; omega)).sI (by unfold fI; omega)
    refine ⟨by simp only [g_sI, Nat.reduceEqDiff, false_and, if_false]; rw [e69], n, T, K, F, r, N, P, CL, PL, U, nt, rfl, hT.fr hF ?_, hR.fr hF ?_, hW.fr hF ?_, hA.fr hF ?_, ?_, hK.fr hF ?_, hM.fr hF ?_, hP.fr hF ?_, hN.fr hF ?_, hG.fr hF ?_⟩
    rotate_left 4
    · refine Or.inr ⟨?_, ?_, ?_⟩
      · simp only [g_sI, g_sA, Nat.reduceEqDiff, false_and, and_false, if_false, and_self, if_true]
      · simp only [g_sI, and_self, if_true]
      · have e77 : (sI (sA (sI (sI τ 9 0 1 1) 10 0 0 0) 77 0 (cpS ((sI τ 9 0 1 1).1 69 0) ((sI τ 9 0 1 1).1 77 0) 0 291)) 10 0 47 1).1 77 0 = cpS (σ.1 69 0) ((sI τ 9 0 1 1).1 77 0) 0 291 := by
          rw [sI_rne (by decide), sA_row, sI_rne (by decide), e69]
        rw [e77]
        have hc : ∀ p, p < 291 → cpS (σ.1 69 0) ((sI τ 9 0 1 1).1 77 0) 0 291 p = σ.1 69 0 p := fun p hp => cpS_eq hp
        refine ⟨CW.congr K4 h19.2 h110.2 hc ?_, WW.congr K4 hc hWW, PF.congr h19.2 hc hPF⟩
        refine (t2 K (σ.1 69 0) K4 h19.2 h110.2 hC).fr (S := fun k j _ => k = 9 ∨ k = 10 ∨ k = 77) ((((Fr.rf.sI (by omega)).sI (by omega)).sA (fun o => by omega)).sI (by omega)) (fun k o q w => by omega)
    all_goals (intro k j o q w; simp only [fR, fW, fA, fC, fU, fI, fK, fM, fP, fN, fD, fE, fG, fT, Sc, Sd, SFd, SFm, SW, SAk, SR, SRu, SP, SY, SM, SPl, SRr, SRd, SCa, SRe, false_or, or_false] at q w; omega)
  · refine ok_MO_image q4 (fun _ => ⟨rfl, hJ.sc th_sc⟩) (fun w => absurd (Classical.not_not.mp z) (by rw [if_pos (by omega)]; decide))
theorem ok_MO_back {σ : jM} {Φ : jPh} {d : Nat} (h0 : σ.1 10 0 47 = 0 → Φ (some (.inl (-1))) (sI σ 10 0 0 0)) (h1 : σ.1 10 0 47 ≠ 0 → Φ (some (.inl (σ.1 77 0 18))) (sI (sA (sI σ 10 0 0 0) 69 0 (cpS (σ.1 77 0) (σ.1 69 0) 0 291)) 10 0 39 0)) : Ct (d + 1) M_MO_back [rf 10 0] σ Φ := by
  refine i_MO_back (Nat.le_succ 1) (fun At h16 => ?_)
  simp only [w_MO_back_0, w_MO_back_14, c_ic, c_lc, c_nul, c_il, c_ll, c_al, c_is, c_ls, c_as, c_inc, c_b2, c_b2n, c_b1, c_d2, c_d2n, c_dsh, c_i2l, c_l2i, c_lcm, c_dup, c_dup2, c_pop, c_j1, c_j2, c_jn, c_sw0, c_sw, c_gI, c_gL, c_gR, c_gS, c_pI, c_pZ, c_pL, c_pR, c_iald, c_ialg, c_iast, c_iasg, c_bald, c_bast, c_lald, c_last, c_aald, c_aals, c_aast, c_alen, c_bnd, c_str, c_bndl, c_bnln, c_sval, c_scod, c_sbal, c_sbln, c_fmt, c_stop, c_iret, c_zret, c_nret, c_aret, c_vret, c_lret, c_cpy, c_callV, c_callS, tkA, lget, lput, lkill, jpush, vsz, jcat, lins, lent, List.length_cons, List.length_nil, List.replicate, List.append_nil, List.cons_append, List.nil_append, reduceIte, Nat.reduceAdd, Nat.reduceSub, Nat.reduceEqDiff, true_and, and_true, Nat.reduceLeDiff, Nat.lt_irrefl, Nat.succ_ne_self, forall_const, ne_eq, not_true_eq_false, not_false_eq_true, false_implies, implies_true, true_implies, true_or, or_true, or_false, false_or, eq_self, Int.reduceEq, Int.reduceLT, Int.reduceLE, Int.reduceNeg, Int.reduceToNat, Int.reduceAdd, Int.reduceSub, Int.reduceMul, Int.reduceNe, and_self, g_sI, g_sI2, g_sL1, g_sL, g_sL2, g_sR1, g_sR2, g_sR, g_sA, g_sA2, and_false, false_and, and_self, if_false, if_true]
  refine ⟨fun z => ?_, fun z => h0 (by omega)⟩
  have key : ∀ (m q : Nat), q + m = 291 → At 16 [some (rf 10 0), some (.inl q)] [] (sA (sI σ 10 0 0 0) 69 0 (cpS (σ.1 77 0) (σ.1 69 0) 0 q)) := by
    intro m
    induction m with
    | zero =>
      intro q hq
      refine h16 _ _ _ ?_
      simp only [w_MO_back_16, w_MO_back_41, c_ic, c_lc, c_nul, c_il, c_ll, c_al, c_is, c_ls, c_as, c_inc, c_b2, c_b2n, c_b1, c_d2, c_d2n, c_dsh, c_i2l, c_l2i, c_lcm, c_dup, c_dup2, c_pop, c_j1, c_j2, c_jn, c_sw0, c_sw, c_gI, c_gL, c_gR, c_gS, c_pI, c_pZ, c_pL, c_pR, c_iald, c_ialg, c_iast, c_iasg, c_bald, c_bast, c_lald, c_last, c_aald, c_aals, c_aast, c_alen, c_bnd, c_str, c_bndl, c_bnln, c_sval, c_scod, c_sbal, c_sbln, c_fmt, c_stop, c_iret, c_zret, c_nret, c_aret, c_vret, c_lret, c_cpy, c_callV, c_callS, tkA, lget, lput, lkill, jpush, vsz, jcat, lins, lent, List.length_cons, List.length_nil, List.replicate, List.append_nil, List.cons_append, List.nil_append, reduceIte, Nat.reduceAdd, Nat.reduceSub, Nat.reduceEqDiff, true_and, and_true, Nat.reduceLeDiff, Nat.lt_irrefl, Nat.succ_ne_self, forall_const, ne_eq, not_true_eq_false, not_false_eq_true, false_implies, implies_true, true_implies, true_or, or_true, or_false, false_or, eq_self, Int.reduceEq, Int.reduceLT, Int.reduceLE, Int.reduceNeg, Int.reduceToNat, Int.reduceAdd, Int.reduceSub, Int.reduceMul, Int.reduceNe, and_self, g_sI, g_sI2, g_sL1, g_sL, g_sL2, g_sR1, g_sR2, g_sR, g_sA, g_sA2, and_false, false_and, and_self, if_false, if_true, eT69, eC69, jl69, Nat.reduceLT]
      refine ⟨fun _ => ?_, fun w => absurd w (by omega)⟩
      rw [show q = 291 by omega, cpS_eq (by decide)]
      exact h1 z
    | succ m ih =>
      intro q hq
      refine h16 _ _ _ ?_
      simp only [w_MO_back_16, c_ic, c_lc, c_nul, c_il, c_ll, c_al, c_is, c_ls, c_as, c_inc, c_b2, c_b2n, c_b1, c_d2, c_d2n, c_dsh, c_i2l, c_l2i, c_lcm, c_dup, c_dup2, c_pop, c_j1, c_j2, c_jn, c_sw0, c_sw, c_gI, c_gL, c_gR, c_gS, c_pI, c_pZ, c_pL, c_pR, c_iald, c_ialg, c_iast, c_iasg, c_bald, c_bast, c_lald, c_last, c_aald, c_aals, c_aast, c_alen, c_bnd, c_str, c_bndl, c_bnln, c_sval, c_scod, c_sbal, c_sbln, c_fmt, c_stop, c_iret, c_zret, c_nret, c_aret, c_vret, c_lret, c_cpy, c_callV, c_callS, tkA, lget, lput, lkill, jpush, vsz, jcat, lins, lent, List.length_cons, List.length_nil, List.replicate, List.append_nil, List.cons_append, List.nil_append, reduceIte, Nat.reduceAdd, Nat.reduceSub, Nat.reduceEqDiff, true_and, and_true, Nat.reduceLeDiff, Nat.lt_irrefl, Nat.succ_ne_self, forall_const, ne_eq, not_true_eq_false, not_false_eq_true, false_implies, implies_true, true_implies, true_or, or_true, or_false, false_or, eq_self, Int.reduceEq, Int.reduceLT, Int.reduceLE, Int.reduceNeg, Int.reduceToNat, Int.reduceAdd, Int.reduceSub, Int.reduceMul, Int.reduceNe, and_self, g_sI, g_sI2, g_sL1, g_sL, g_sL2, g_sR1, g_sR2, g_sR, g_sA, g_sA2, and_false, false_and, and_self, if_false, if_true, eT69, eC69, jl69, Nat.reduceLT, Int.toNat_natCast, inc_nat (show q ≤ 100000 by omega), sA_sI]
      refine ⟨fun w => absurd w (by omega), fun _ => ⟨⟨by omega, by omega⟩, ⟨by omega, by omega⟩, ?_⟩⟩
      have e := cp_step (σ.1 77 0) (σ.1 69 0) 0 q
      rw [Nat.zero_add] at e
      rw [e]
      exact ih (q + 1) (by omega)
  have := key 291 0 rfl
  rw [cp_0] at this
  refine Eq.mp ?_ this
  congr 1
  exact sA_self (sI σ 10 0 0 0) 69 0
theorem pr_back : Pr M_LB_back M_MO_back [] := by
  intro σ q hJ
  have hJ0 := hJ
  obtain ⟨n, T, K, F, r, N, P, CL, PL, U, nt, rfl, hT, hR, hW, hA, hI, hK, hM, hP, hN, hG⟩ := hJ0
  obtain ⟨q1, -, r2, -, q3, q4, q5, K4, F8, -⟩ := id hR
  refine i_LB_back (Nat.le_refl 1) ?_
  simp only [w_LB_back_9, w_LB_back_0, c_ic, c_lc, c_nul, c_il, c_ll, c_al, c_is, c_ls, c_as, c_inc, c_b2, c_b2n, c_b1, c_d2, c_d2n, c_dsh, c_i2l, c_l2i, c_lcm, c_dup, c_dup2, c_pop, c_j1, c_j2, c_jn, c_sw0, c_sw, c_gI, c_gL, c_gR, c_gS, c_pI, c_pZ, c_pL, c_pR, c_iald, c_ialg, c_iast, c_iasg, c_bald, c_bast, c_lald, c_last, c_aald, c_aals, c_aast, c_alen, c_bnd, c_str, c_bndl, c_bnln, c_sval, c_scod, c_sbal, c_sbln, c_fmt, c_stop, c_iret, c_zret, c_nret, c_aret, c_vret, c_lret, c_cpy, c_callV, c_callS, tkA, lget, lput, lkill, jpush, vsz, jcat, lins, lent, List.length_cons, List.length_nil, List.replicate, List.append_nil, List.cons_append, List.nil_append, reduceIte, Nat.reduceAdd, Nat.reduceSub, Nat.reduceEqDiff, true_and, and_true, Nat.reduceLeDiff, Nat.lt_irrefl, Nat.succ_ne_self, forall_const, ne_eq, not_true_eq_false, not_false_eq_true, false_implies, implies_true, true_implies, true_or, or_true, or_false, false_or, eq_self, Int.reduceEq, Int.reduceLT, Int.reduceLE, Int.reduceNeg, Int.reduceToNat, Int.reduceAdd, Int.reduceSub, Int.reduceMul, Int.reduceNe, and_self]
  rcases id hI with ⟨i1, i2⟩ | ⟨i1, i2, hC, hWW, hPF⟩
  · simp only [i1, c_ic, c_lc, c_nul, c_il, c_ll, c_al, c_is, c_ls, c_as, c_inc, c_b2, c_b2n, c_b1, c_d2, c_d2n, c_dsh, c_i2l, c_l2i, c_lcm, c_dup, c_dup2, c_pop, c_j1, c_j2, c_jn, c_sw0, c_sw, c_gI, c_gL, c_gR, c_gS, c_pI, c_pZ, c_pL, c_pR, c_iald, c_ialg, c_iast, c_iasg, c_bald, c_bast, c_lald, c_last, c_aald, c_aals, c_aast, c_alen, c_bnd, c_str, c_bndl, c_bnln, c_sval, c_scod, c_sbal, c_sbln, c_fmt, c_stop, c_iret, c_zret, c_nret, c_aret, c_vret, c_lret, c_cpy, c_callV, c_callS, tkA, lget, lput, lkill, jpush, vsz, jcat, lins, lent, List.length_cons, List.length_nil, List.replicate, List.append_nil, List.cons_append, List.nil_append, reduceIte, Nat.reduceAdd, Nat.reduceSub, Nat.reduceEqDiff, true_and, and_true, Nat.reduceLeDiff, Nat.lt_irrefl, Nat.succ_ne_self, forall_const, ne_eq, not_true_eq_false, not_false_eq_true, false_implies, implies_true, true_implies, true_or, or_true, or_false, false_or, eq_self, Int.reduceEq, Int.reduceLT, Int.reduceLE, Int.reduceNeg, Int.reduceToNat, Int.reduceAdd, Int.reduceSub, Int.reduceMul, Int.reduceNe, and_self]
    exact ⟨⟨_, rfl⟩, ok_MO_back (fun _ => ⟨rfl, hJ.sc th_sc⟩) (fun w => absurd i2 w)⟩
  · simp only [i1, c_ic, c_lc, c_nul, c_il, c_ll, c_al, c_is, c_ls, c_as, c_inc, c_b2, c_b2n, c_b1, c_d2, c_d2n, c_dsh, c_i2l, c_l2i, c_lcm, c_dup, c_dup2, c_pop, c_j1, c_j2, c_jn, c_sw0, c_sw, c_gI, c_gL, c_gR, c_gS, c_pI, c_pZ, c_pL, c_pR, c_iald, c_ialg, c_iast, c_iasg, c_bald, c_bast, c_lald, c_last, c_aald, c_aals, c_aast, c_alen, c_bnd, c_str, c_bndl, c_bnln, c_sval, c_scod, c_sbal, c_sbln, c_fmt, c_stop, c_iret, c_zret, c_nret, c_aret, c_vret, c_lret, c_cpy, c_callV, c_callS, tkA, lget, lput, lkill, jpush, vsz, jcat, lins, lent, List.length_cons, List.length_nil, List.replicate, List.append_nil, List.cons_append, List.nil_append, reduceIte, Nat.reduceAdd, Nat.reduceSub, Nat.reduceEqDiff, true_and, and_true, Nat.reduceLeDiff, Nat.lt_irrefl, Nat.succ_ne_self, forall_const, ne_eq, not_true_eq_false, not_false_eq_true, false_implies, implies_true, true_implies, true_or, or_true, or_false, false_or, eq_self, Int.reduceEq, Int.reduceLT, Int.reduceLE, Int.reduceNeg, Int.reduceToNat, Int.reduceAdd, Int.reduceSub, Int.reduceMul, Int.reduceNe, and_self]
    have h19 := hWW.2.2.2.2.2.1
    have h110 := hWW.2.2.2.2.2.2.2.1
    refine ok_WO_copyFrom (by decide) (fun τ t1 t2 => ?_)
    simp only [c_ic, c_lc, c_nul, c_il, c_ll, c_al, c_is, c_ls, c_as, c_inc, c_b2, c_b2n, c_b1, c_d2, c_d2n, c_dsh, c_i2l, c_l2i, c_lcm, c_dup, c_dup2, c_pop, c_j1, c_j2, c_jn, c_sw0, c_sw, c_gI, c_gL, c_gR, c_gS, c_pI, c_pZ, c_pL, c_pR, c_iald, c_ialg, c_iast, c_iasg, c_bald, c_bast, c_lald, c_last, c_aald, c_aals, c_aast, c_alen, c_bnd, c_str, c_bndl, c_bnln, c_sval, c_scod, c_sbal, c_sbln, c_fmt, c_stop, c_iret, c_zret, c_nret, c_aret, c_vret, c_lret, c_cpy, c_callV, c_callS, tkA, lget, lput, lkill, jpush, vsz, jcat, lins, lent, List.length_cons, List.length_nil, List.replicate, List.append_nil, List.cons_append, List.nil_append, reduceIte, Nat.reduceAdd, Nat.reduceSub, Nat.reduceEqDiff, true_and, and_true, Nat.reduceLeDiff, Nat.lt_irrefl, Nat.succ_ne_self, forall_const, ne_eq, not_true_eq_false, not_false_eq_true, false_implies, implies_true, true_implies, true_or, or_true, or_false, false_or, eq_self, Int.reduceEq, Int.reduceLT, Int.reduceLE, Int.reduceNeg, Int.reduceToNat, Int.reduceAdd, Int.reduceSub, Int.reduceMul, Int.reduceNe, and_self]
    refine ok_AC_forget ?_
    have hC0 : CW τ 0 K (σ.1 77 0) := t2 K _ K4 h19.2 h110.2 hC
    have c11 : τ.1 8 0 11 = σ.1 77 0 18 := hC0.2.2.1.2.2.2
    have e77 : τ.1 77 0 = σ.1 77 0 := t1.row (fun o w => by unfold SW at w; omega)
    simp only [c_ic, c_lc, c_nul, c_il, c_ll, c_al, c_is, c_ls, c_as, c_inc, c_b2, c_b2n, c_b1, c_d2, c_d2n, c_dsh, c_i2l, c_l2i, c_lcm, c_dup, c_dup2, c_pop, c_j1, c_j2, c_jn, c_sw0, c_sw, c_gI, c_gL, c_gR, c_gS, c_pI, c_pZ, c_pL, c_pR, c_iald, c_ialg, c_iast, c_iasg, c_bald, c_bast, c_lald, c_last, c_aald, c_aals, c_aast, c_alen, c_bnd, c_str, c_bndl, c_bnln, c_sval, c_scod, c_sbal, c_sbln, c_fmt, c_stop, c_iret, c_zret, c_nret, c_aret, c_vret, c_lret, c_cpy, c_callV, c_callS, tkA, lget, lput, lkill, jpush, vsz, jcat, lins, lent, List.length_cons, List.length_nil, List.replicate, List.append_nil, List.cons_append, List.nil_append, reduceIte, Nat.reduceAdd, Nat.reduceSub, Nat.reduceEqDiff, true_and, and_true, Nat.reduceLeDiff, Nat.lt_irrefl, Nat.succ_ne_self, forall_const, ne_eq, not_true_eq_false, not_false_eq_true, false_implies, implies_true, true_implies, true_or, or_true, or_false, false_or, eq_self, Int.reduceEq, Int.reduceLT, Int.reduceLE, Int.reduceNeg, Int.reduceToNat, Int.reduceAdd, Int.reduceSub, Int.reduceMul, Int.reduceNe, and_self, g_sI, g_sI2, g_sL1, g_sL, g_sL2, g_sR1, g_sR2, g_sR, g_sA, g_sA2, and_false, false_and, and_self, if_false, if_true, c11]
    refine ⟨⟨_, rfl⟩, ?_⟩
    refine ok_MO_back (fun w => ?_) (fun _ => ?_)
    · simp only [g_sI, Nat.reduceEqDiff, false_and, if_false] at w
      rw [t1.i (by unfold SW; omega), i2] at w
      exact absurd w (by decide)
    have hF : Fr (fun k j o => SW 0 k j o ∨ Sc k j o ∨ (k = 0 ∧ j = 0) ∨ (k = 69 ∧ j = 0) ∨ (k = 10 ∧ j = 0 ∧ o = 39)) σ (sI (sA (sI (sI τ 0 0 2 0) 10 0 0 0) 69 0 (cpS ((sI τ 0 0 2 0).1 77 0) ((sI τ 0 0 2 0).1 69 0) 0 291)) 10 0 39 0) := ((((t1.wk (fun _ _ _ q => Or.inl q)).sI (by omega)).sI (by unfold Sc; omega)).sA (fun o => by omega)).sI (by omega)
    refine ⟨by rw [sI_rne (by decide), e77], n, T, K, F, r, N, P, CL, PL, [], nt, rfl, hT.fr hF ?_, hR.fr hF ?_, ?_, ?_, hI.fr hF ?_, hK.fr hF ?_, hM.fr hF ?_, hP.fr hF ?_, hN.fr hF ?_, hG.fr hF ?_⟩
    rotate_left 2
    · have e69 : (sI (sA (sI (sI τ 0 0 2 0) 10 0 0 0) 69 0 (cpS ((sI τ 0 0 2 0).1 77 0) ((sI τ 0 0 2 0).1 69 0) 0 291)) 10 0 39 0).1 69 0 = cpS (σ.1 77 0) ((sI τ 0 0 2 0).1 69 0) 0 291 := by
        rw [sI_rne (by decide), sA_row, sI_rne (by decide), e77]
      unfold JW
      rw [e69]
      have hc : ∀ p, p < 291 → cpS (σ.1 77 0) ((sI τ 0 0 2 0).1 69 0) 0 291 p = σ.1 77 0 p := fun p hp => cpS_eq hp
      refine ⟨CW.congr K4 h19.2 h110.2 hc ?_, WW.congr K4 hc hWW, PF.congr h19.2 hc hPF⟩
      exact hC0.fr (S := fun k j _ => k = 0 ∨ k = 10 ∨ k = 69) ((((Fr.rf.sI (by omega)).sI (by omega)).sA (fun o => by omega)).sI (by omega)) (fun k o q w => by omega)
    · refine ⟨?_, fun V hV => absurd hV (by simp), ?_, fun i hi => absurd hi (by simp)⟩
      · have hAK : AK τ K U := hA.1.fr t1 (fun k j o q w => by unfold fC at q; unfold SW at w; omega)
        exact hAK.forget.fr (S := fun k j o => k = 10 ∨ k = 69) (((Fr.rf.sI (by omega)).sA (fun o => by omega)).sI (by omega)) (fun k j o q w => by unfold fC at q; omega)
      · simp only [g_sI, and_self, if_true]; rfl
    all_goals (intro k j o q w; simp only [fR, fW, fA, fC, fU, fI, fK, fM, fP, fN, fD, fE, fG, fT, Sc, Sd, SFd, SFm, SW, SAk, SR, SRu, SP, SY, SM, SPl, SRr, SRd, SCa, SRe, false_or, or_false] at q w; omega)
theorem ok_MO_undo {σ : jM} {Φ : jPh} {d a : Nat} (ha : σ.1 10 0 39 = a) (h40 : a ≤ 40) (h0 : a = 0 → Φ (some (.inl (-1))) (sI σ 10 0 0 0)) (h1 : ∀ a' : Nat, a = a' + 1 → Φ (some (.inl a')) (sA (sI (sI σ 10 0 0 0) 10 0 39 a') 69 0 (cpS (fun p => σ.1 72 0 (291 * a' + p)) (σ.1 69 0) 0 291))) : Ct (d + 1) M_MO_undo [rf 10 0] σ Φ := by
  refine i_MO_undo (Nat.le_succ 1) (fun At h26 => ?_)
  simp only [w_MO_undo_0, w_MO_undo_14, c_ic, c_lc, c_nul, c_il, c_ll, c_al, c_is, c_ls, c_as, c_inc, c_b2, c_b2n, c_b1, c_d2, c_d2n, c_dsh, c_i2l, c_l2i, c_lcm, c_dup, c_dup2, c_pop, c_j1, c_j2, c_jn, c_sw0, c_sw, c_gI, c_gL, c_gR, c_gS, c_pI, c_pZ, c_pL, c_pR, c_iald, c_ialg, c_iast, c_iasg, c_bald, c_bast, c_lald, c_last, c_aald, c_aals, c_aast, c_alen, c_bnd, c_str, c_bndl, c_bnln, c_sval, c_scod, c_sbal, c_sbln, c_fmt, c_stop, c_iret, c_zret, c_nret, c_aret, c_vret, c_lret, c_cpy, c_callV, c_callS, tkA, lget, lput, lkill, jpush, vsz, jcat, lins, lent, List.length_cons, List.length_nil, List.replicate, List.append_nil, List.cons_append, List.nil_append, reduceIte, Nat.reduceAdd, Nat.reduceSub, Nat.reduceEqDiff, true_and, and_true, Nat.reduceLeDiff, Nat.lt_irrefl, Nat.succ_ne_self, forall_const, ne_eq, not_true_eq_false, not_false_eq_true, false_implies, implies_true, true_implies, true_or, or_true, or_false, false_or, eq_self, Int.reduceEq, Int.reduceLT, Int.reduceLE, Int.reduceNeg, Int.reduceToNat, Int.reduceAdd, Int.reduceSub, Int.reduceMul, Int.reduceNe, and_self, g_sI, g_sI2, g_sL1, g_sL, g_sL2, g_sR1, g_sR2, g_sR, g_sA, g_sA2, and_false, false_and, and_self, if_false, if_true, ha]
  refine ⟨fun z => ?_, fun z => h0 (by omega)⟩
  obtain ⟨a', rfl⟩ : ∃ a', a = a' + 1 := ⟨a - 1, by omega⟩
  have e0 : wr (((a' + 1 : Nat) : Int) - 1) = a' := by rw [wr_id (by omega) (by omega)]; omega
  rw [e0]
  have key : ∀ (m q : Nat), q + m = 291 → At 26 [some (rf 10 0), some (.inl q)] [] (sA (sI (sI σ 10 0 0 0) 10 0 39 a') 69 0 (cpS (fun p => σ.1 72 0 (291 * a' + p)) (σ.1 69 0) 0 q)) := by
    intro m
    induction m with
    | zero =>
      intro q hq
      refine h26 _ _ _ ?_
      simp only [w_MO_undo_26, w_MO_undo_60, c_ic, c_lc, c_nul, c_il, c_ll, c_al, c_is, c_ls, c_as, c_inc, c_b2, c_b2n, c_b1, c_d2, c_d2n, c_dsh, c_i2l, c_l2i, c_lcm, c_dup, c_dup2, c_pop, c_j1, c_j2, c_jn, c_sw0, c_sw, c_gI, c_gL, c_gR, c_gS, c_pI, c_pZ, c_pL, c_pR, c_iald, c_ialg, c_iast, c_iasg, c_bald, c_bast, c_lald, c_last, c_aald, c_aals, c_aast, c_alen, c_bnd, c_str, c_bndl, c_bnln, c_sval, c_scod, c_sbal, c_sbln, c_fmt, c_stop, c_iret, c_zret, c_nret, c_aret, c_vret, c_lret, c_cpy, c_callV, c_callS, tkA, lget, lput, lkill, jpush, vsz, jcat, lins, lent, List.length_cons, List.length_nil, List.replicate, List.append_nil, List.cons_append, List.nil_append, reduceIte, Nat.reduceAdd, Nat.reduceSub, Nat.reduceEqDiff, true_and, and_true, Nat.reduceLeDiff, Nat.lt_irrefl, Nat.succ_ne_self, forall_const, ne_eq, not_true_eq_false, not_false_eq_true, false_implies, implies_true, true_implies, true_or, or_true, or_false, false_or, eq_self, Int.reduceEq, Int.reduceLT, Int.reduceLE, Int.reduceNeg, Int.reduceToNat, Int.reduceAdd, Int.reduceSub, Int.reduceMul, Int.reduceNe, and_self, g_sI, g_sI2, g_sL1, g_sL, g_sL2, g_sR1, g_sR2, g_sR, g_sA, g_sA2, and_false, false_and, and_self, if_false, if_true]
      refine ⟨fun _ => ?_, fun w => absurd w (by omega)⟩
      rw [show q = 291 by omega]
      exact h1 a' rfl
    | succ m ih =>
      intro q hq
      refine h26 _ _ _ ?_
      have e1 : wr (wr (291 * (a' : Int)) + q) = ((291 * a' + q : Nat) : Int) := by simp (disch := omega) only [wr_id]; omega
      simp only [w_MO_undo_26, c_ic, c_lc, c_nul, c_il, c_ll, c_al, c_is, c_ls, c_as, c_inc, c_b2, c_b2n, c_b1, c_d2, c_d2n, c_dsh, c_i2l, c_l2i, c_lcm, c_dup, c_dup2, c_pop, c_j1, c_j2, c_jn, c_sw0, c_sw, c_gI, c_gL, c_gR, c_gS, c_pI, c_pZ, c_pL, c_pR, c_iald, c_ialg, c_iast, c_iasg, c_bald, c_bast, c_lald, c_last, c_aald, c_aals, c_aast, c_alen, c_bnd, c_str, c_bndl, c_bnln, c_sval, c_scod, c_sbal, c_sbln, c_fmt, c_stop, c_iret, c_zret, c_nret, c_aret, c_vret, c_lret, c_cpy, c_callV, c_callS, tkA, lget, lput, lkill, jpush, vsz, jcat, lins, lent, List.length_cons, List.length_nil, List.replicate, List.append_nil, List.cons_append, List.nil_append, reduceIte, Nat.reduceAdd, Nat.reduceSub, Nat.reduceEqDiff, true_and, and_true, Nat.reduceLeDiff, Nat.lt_irrefl, Nat.succ_ne_self, forall_const, ne_eq, not_true_eq_false, not_false_eq_true, false_implies, implies_true, true_implies, true_or, or_true, or_false, false_or, eq_self, Int.reduceEq, Int.reduceLT, Int.reduceLE, Int.reduceNeg, Int.reduceToNat, Int.reduceAdd, Int.reduceSub, Int.reduceMul, Int.reduceNe, and_self, g_sI, g_sI2, g_sL1, g_sL, g_sL2, g_sR1, g_sR2, g_sR, g_sA, g_sA2, and_false, false_and, and_self, if_false, if_true, eT69, eC69, jl69, Nat.reduceLT, e1, Int.toNat_natCast, inc_nat (show q ≤ 100000 by omega), sA_sI]
      refine ⟨fun w => absurd w (by omega), fun _ => ⟨⟨by omega, by omega⟩, ⟨by omega, by omega⟩, ?_⟩⟩
      have e := cp_step (fun p => σ.1 72 0 (291 * a' + p)) (σ.1 69 0) 0 q
      rw [Nat.zero_add] at e
      rw [e]
      exact ih (q + 1) (by omega)
  have := key 291 0 rfl
  rw [cp_0] at this
  refine Eq.mp ?_ this
  congr 1
  exact sA_self (sI (sI σ 10 0 0 0) 10 0 39 a') 69 0
theorem pr_undo : Pr M_LB_undo M_MO_undo [] := by
  intro σ q hJ
  have hJ0 := hJ
  obtain ⟨n, T, K, F, r, N, P, CL, PL, U, nt, rfl, hT, hR, hW, hA, hI, hK, hM, hP, hN, hG⟩ := hJ0
  obtain ⟨q1, -, r2, -, q3, q4, q5, K4, F8, -⟩ := id hR
  obtain ⟨hAK, hV, u1, u2⟩ := id hA
  have h40 := hAK.1
  refine i_LB_undo (Nat.le_refl 1) ?_
  simp only [w_LB_undo_25, w_LB_undo_24, w_LB_undo_0, c_ic, c_lc, c_nul, c_il, c_ll, c_al, c_is, c_ls, c_as, c_inc, c_b2, c_b2n, c_b1, c_d2, c_d2n, c_dsh, c_i2l, c_l2i, c_lcm, c_dup, c_dup2, c_pop, c_j1, c_j2, c_jn, c_sw0, c_sw, c_gI, c_gL, c_gR, c_gS, c_pI, c_pZ, c_pL, c_pR, c_iald, c_ialg, c_iast, c_iasg, c_bald, c_bast, c_lald, c_last, c_aald, c_aals, c_aast, c_alen, c_bnd, c_str, c_bndl, c_bnln, c_sval, c_scod, c_sbal, c_sbln, c_fmt, c_stop, c_iret, c_zret, c_nret, c_aret, c_vret, c_lret, c_cpy, c_callV, c_callS, tkA, lget, lput, lkill, jpush, vsz, jcat, lins, lent, List.length_cons, List.length_nil, List.replicate, List.append_nil, List.cons_append, List.nil_append, reduceIte, Nat.reduceAdd, Nat.reduceSub, Nat.reduceEqDiff, true_and, and_true, Nat.reduceLeDiff, Nat.lt_irrefl, Nat.succ_ne_self, forall_const, ne_eq, not_true_eq_false, not_false_eq_true, false_implies, implies_true, true_implies, true_or, or_true, or_false, false_or, eq_self, Int.reduceEq, Int.reduceLT, Int.reduceLE, Int.reduceNeg, Int.reduceToNat, Int.reduceAdd, Int.reduceSub, Int.reduceMul, Int.reduceNe, and_self]
  refine ok_AC_giveBack K4 hAK (fun V hq => ⟨(hV V hq).1.2.2.2.2.2.1.2, (hV V hq).1.2.2.2.2.2.2.2.1.2⟩) (fun z => ?_) (fun U' V τ hU t1 t2 t3 => ?_)
  · simp only [c_ic, c_lc, c_nul, c_il, c_ll, c_al, c_is, c_ls, c_as, c_inc, c_b2, c_b2n, c_b1, c_d2, c_d2n, c_dsh, c_i2l, c_l2i, c_lcm, c_dup, c_dup2, c_pop, c_j1, c_j2, c_jn, c_sw0, c_sw, c_gI, c_gL, c_gR, c_gS, c_pI, c_pZ, c_pL, c_pR, c_iald, c_ialg, c_iast, c_iasg, c_bald, c_bast, c_lald, c_last, c_aald, c_aals, c_aast, c_alen, c_bnd, c_str, c_bndl, c_bnln, c_sval, c_scod, c_sbal, c_sbln, c_fmt, c_stop, c_iret, c_zret, c_nret, c_aret, c_vret, c_lret, c_cpy, c_callV, c_callS, tkA, lget, lput, lkill, jpush, vsz, jcat, lins, lent, List.length_cons, List.length_nil, List.replicate, List.append_nil, List.cons_append, List.nil_append, reduceIte, Nat.reduceAdd, Nat.reduceSub, Nat.reduceEqDiff, true_and, and_true, Nat.reduceLeDiff, Nat.lt_irrefl, Nat.succ_ne_self, forall_const, ne_eq, not_true_eq_false, not_false_eq_true, false_implies, implies_true, true_implies, true_or, or_true, or_false, false_or, eq_self, Int.reduceEq, Int.reduceLT, Int.reduceLE, Int.reduceNeg, Int.reduceToNat, Int.reduceAdd, Int.reduceSub, Int.reduceMul, Int.reduceNe, and_self]
    rw [z] at u1
    exact ⟨⟨_, rfl⟩, ok_MO_undo (a := 0) u1 (by decide) (fun _ => ⟨rfl, hJ.sc th_sc⟩) (fun a' e => absurd e (by omega))⟩
  · subst hU
    have hlen : (U' ++ [V]).length = U'.length + 1 := by simp
    rw [hlen] at u1 u2 h40
    have hl := t2.2.1
    simp only [c_ic, c_lc, c_nul, c_il, c_ll, c_al, c_is, c_ls, c_as, c_inc, c_b2, c_b2n, c_b1, c_d2, c_d2n, c_dsh, c_i2l, c_l2i, c_lcm, c_dup, c_dup2, c_pop, c_j1, c_j2, c_jn, c_sw0, c_sw, c_gI, c_gL, c_gR, c_gS, c_pI, c_pZ, c_pL, c_pR, c_iald, c_ialg, c_iast, c_iasg, c_bald, c_bast, c_lald, c_last, c_aald, c_aals, c_aast, c_alen, c_bnd, c_str, c_bndl, c_bnln, c_sval, c_scod, c_sbal, c_sbln, c_fmt, c_stop, c_iret, c_zret, c_nret, c_aret, c_vret, c_lret, c_cpy, c_callV, c_callS, tkA, lget, lput, lkill, jpush, vsz, jcat, lins, lent, List.length_cons, List.length_nil, List.replicate, List.append_nil, List.cons_append, List.nil_append, reduceIte, Nat.reduceAdd, Nat.reduceSub, Nat.reduceEqDiff, true_and, and_true, Nat.reduceLeDiff, Nat.lt_irrefl, Nat.succ_ne_self, forall_const, ne_eq, not_true_eq_false, not_false_eq_true, false_implies, implies_true, true_implies, true_or, or_true, or_false, false_or, eq_self, Int.reduceEq, Int.reduceLT, Int.reduceLE, Int.reduceNeg, Int.reduceToNat, Int.reduceAdd, Int.reduceSub, Int.reduceMul, Int.reduceNe, and_self, hl]
    refine ⟨⟨_, rfl⟩, ?_⟩
    have nS : ∀ k j o, k = 10 ∨ k = 72 ∨ k = 69 → ¬ (SW 0 k j o ∨ (k = 0 ∧ j = 0)) := fun k j o q w => by unfold SW at w; omega
    have hVm := hV V (by simp)
    refine ok_MO_undo (a := U'.length + 1) (by rw [t1.i (nS _ _ _ (by omega))]; exact u1) (by omega) (fun w => absurd w (by omega)) (fun a' e => ?_)
    obtain rfl : a' = U'.length := by omega
    have hF : Fr (fun k j o => SW 0 k j o ∨ Sc k j o ∨ (k = 0 ∧ j = 0) ∨ (k = 69 ∧ j = 0) ∨ (k = 10 ∧ j = 0 ∧ o = 39)) σ (sA (sI (sI τ 10 0 0 0) 10 0 39 U'.length) 69 0 (cpS (fun p => τ.1 72 0 (291 * U'.length + p)) (τ.1 69 0) 0 291)) := (((t1.wk (fun k j o q => q.elim (fun q => Or.inl q) (fun q => Or.inr (Or.inr (Or.inl q))))).sI (by unfold Sc; omega)).sI (by omega)).sA (fun o => by omega)
    have hc : ∀ p, p < 291 → cpS (fun p => τ.1 72 0 (291 * U'.length + p)) (τ.1 69 0) 0 291 p = V p := fun p hp => by
      rw [cpS_eq hp]
      show τ.1 72 0 (291 * U'.length + p) = V p
      rw [t1.i (nS _ _ _ (by omega)), u2 U'.length (by omega) p hp, List.getD_eq_getElem?_getD, List.getElem?_append_right (Nat.le_refl _), Nat.sub_self]
      rfl
    have h19 := hVm.1.2.2.2.2.2.1
    have h110 := hVm.1.2.2.2.2.2.2.2.1
    refine ⟨rfl, n, T, K, F, r, N, P, CL, PL, U', nt, rfl, hT.fr hF ?_, hR.fr hF ?_, ?_, ?_, hI.fr hF ?_, hK.fr hF ?_, hM.fr hF ?_, hP.fr hF ?_, hN.fr hF ?_, hG.fr hF ?_⟩
    rotate_left 2
    · unfold JW
      rw [sA_row]
      refine ⟨CW.congr K4 h19.2 h110.2 hc ?_, WW.congr K4 hc hVm.1, PF.congr h19.2 hc hVm.2⟩
      exact t3.fr (S := fun k j _ => k = 10 ∨ k = 69) (((Fr.rf.sI (by omega)).sI (by omega)).sA (fun o => by omega)) (fun k o q w => by omega)
    · refine ⟨?_, fun V' hV' => hV V' (by simp [hV']), ?_, fun i hi p hp => ?_⟩
      · exact t2.fr (S := fun k j o => k = 10 ∨ k = 69) (((Fr.rf.sI (by omega)).sI (by omega)).sA (fun o => by omega)) (fun k j o q w => by unfold fC at q; omega)
      · simp only [g_sA, g_sI, Nat.reduceEqDiff, false_and, if_false, and_self, if_true]
      · simp only [g_sA, g_sI, Nat.reduceEqDiff, false_and, if_false]
        rw [t1.i (nS _ _ _ (by omega)), u2 i (by omega) p hp, List.getD_eq_getElem?_getD, List.getElem?_append_left hi, ← List.getD_eq_getElem?_getD]
    all_goals (intro k j o q w; simp only [fR, fW, fA, fC, fU, fI, fK, fM, fP, fN, fD, fE, fG, fT, Sc, Sd, SFd, SFm, SW, SAk, SR, SRu, SP, SY, SM, SPl, SRr, SRd, SCa, SRe, false_or, or_false] at q w; omega)
theorem ok_MO_told {σ : jM} {Φ : jPh} {d K F : Nat} {k f c : Int} {nt : List jN} (hK : σ.1 10 0 26 = K) (hF : σ.1 10 0 27 = F) (hn : MN σ nt) (h10 : nt.length ≤ 10) (h0 : ¬ ((0 ≤ k ∧ k < K) ∧ (0 ≤ f ∧ f < F) ∧ (0 ≤ c ∧ c ≤ 29) ∧ nt.length < 10) → Φ (some (.inl (-1))) (sI σ 10 0 0 0)) (h1 : ((0 ≤ k ∧ k < K) ∧ (0 ≤ f ∧ f < F) ∧ (0 ≤ c ∧ c ≤ 29) ∧ nt.length < 10) → Φ (some (.inl (nt.length + 1 : Nat))) (sI (sI (sI (sI (sI σ 10 0 0 0) 73 0 (3 * nt.length) k) 73 0 (3 * nt.length + 1) f) 73 0 (3 * nt.length + 2) c) 10 0 44 (nt.length + 1 : Nat))) : Ct (d + 2) M_MO_told [rf 10 0, .inl k, .inl f, .inl c] σ Φ := by
  have n1 := hn.1
  refine i_MO_told (Nat.le_refl 4) ?_
  simp only [w_MO_told_44, w_MO_told_42, w_MO_told_0, c_ic, c_lc, c_nul, c_il, c_ll, c_al, c_is, c_ls, c_as, c_inc, c_b2, c_b2n, c_b1, c_d2, c_d2n, c_dsh, c_i2l, c_l2i, c_lcm, c_dup, c_dup2, c_pop, c_j1, c_j2, c_jn, c_sw0, c_sw, c_gI, c_gL, c_gR, c_gS, c_pI, c_pZ, c_pL, c_pR, c_iald, c_ialg, c_iast, c_iasg, c_bald, c_bast, c_lald, c_last, c_aald, c_aals, c_aast, c_alen, c_bnd, c_str, c_bndl, c_bnln, c_sval, c_scod, c_sbal, c_sbln, c_fmt, c_stop, c_iret, c_zret, c_nret, c_aret, c_vret, c_lret, c_cpy, c_callV, c_callS, tkA, lget, lput, lkill, jpush, vsz, jcat, lins, lent, List.length_cons, List.length_nil, List.replicate, List.append_nil, List.cons_append, List.nil_append, reduceIte, Nat.reduceAdd, Nat.reduceSub, Nat.reduceEqDiff, true_and, and_true, Nat.reduceLeDiff, Nat.lt_irrefl, Nat.succ_ne_self, forall_const, ne_eq, not_true_eq_false, not_false_eq_true, false_implies, implies_true, true_implies, true_or, or_true, or_false, false_or, eq_self, Int.reduceEq, Int.reduceLT, Int.reduceLE, Int.reduceNeg, Int.reduceToNat, Int.reduceAdd, Int.reduceSub, Int.reduceMul, Int.reduceNe, and_self]
  refine ok_MO_isKingdom (K := K) hK ?_
  simp only [c_ic, c_lc, c_nul, c_il, c_ll, c_al, c_is, c_ls, c_as, c_inc, c_b2, c_b2n, c_b1, c_d2, c_d2n, c_dsh, c_i2l, c_l2i, c_lcm, c_dup, c_dup2, c_pop, c_j1, c_j2, c_jn, c_sw0, c_sw, c_gI, c_gL, c_gR, c_gS, c_pI, c_pZ, c_pL, c_pR, c_iald, c_ialg, c_iast, c_iasg, c_bald, c_bast, c_lald, c_last, c_aald, c_aals, c_aast, c_alen, c_bnd, c_str, c_bndl, c_bnln, c_sval, c_scod, c_sbal, c_sbln, c_fmt, c_stop, c_iret, c_zret, c_nret, c_aret, c_vret, c_lret, c_cpy, c_callV, c_callS, tkA, lget, lput, lkill, jpush, vsz, jcat, lins, lent, List.length_cons, List.length_nil, List.replicate, List.append_nil, List.cons_append, List.nil_append, reduceIte, Nat.reduceAdd, Nat.reduceSub, Nat.reduceEqDiff, true_and, and_true, Nat.reduceLeDiff, Nat.lt_irrefl, Nat.succ_ne_self, forall_const, ne_eq, not_true_eq_false, not_false_eq_true, false_implies, implies_true, true_implies, true_or, or_true, or_false, false_or, eq_self, Int.reduceEq, Int.reduceLT, Int.reduceLE, Int.reduceNeg, Int.reduceToNat, Int.reduceAdd, Int.reduceSub, Int.reduceMul, Int.reduceNe, and_self]
  refine ⟨fun z => h0 (fun w => by rw [if_pos w.1] at z; exact absurd z (by decide)), fun z => ?_⟩
  have z1 : 0 ≤ k ∧ k < K := Classical.byContradiction (fun w => z (if_neg w))
  refine ok_MO_isField (F := F) hF ?_
  simp only [c_ic, c_lc, c_nul, c_il, c_ll, c_al, c_is, c_ls, c_as, c_inc, c_b2, c_b2n, c_b1, c_d2, c_d2n, c_dsh, c_i2l, c_l2i, c_lcm, c_dup, c_dup2, c_pop, c_j1, c_j2, c_jn, c_sw0, c_sw, c_gI, c_gL, c_gR, c_gS, c_pI, c_pZ, c_pL, c_pR, c_iald, c_ialg, c_iast, c_iasg, c_bald, c_bast, c_lald, c_last, c_aald, c_aals, c_aast, c_alen, c_bnd, c_str, c_bndl, c_bnln, c_sval, c_scod, c_sbal, c_sbln, c_fmt, c_stop, c_iret, c_zret, c_nret, c_aret, c_vret, c_lret, c_cpy, c_callV, c_callS, tkA, lget, lput, lkill, jpush, vsz, jcat, lins, lent, List.length_cons, List.length_nil, List.replicate, List.append_nil, List.cons_append, List.nil_append, reduceIte, Nat.reduceAdd, Nat.reduceSub, Nat.reduceEqDiff, true_and, and_true, Nat.reduceLeDiff, Nat.lt_irrefl, Nat.succ_ne_self, forall_const, ne_eq, not_true_eq_false, not_false_eq_true, false_implies, implies_true, true_implies, true_or, or_true, or_false, false_or, eq_self, Int.reduceEq, Int.reduceLT, Int.reduceLE, Int.reduceNeg, Int.reduceToNat, Int.reduceAdd, Int.reduceSub, Int.reduceMul, Int.reduceNe, and_self]
  refine ⟨fun z => h0 (fun w => by rw [if_pos w.2.1] at z; exact absurd z (by decide)), fun z => ?_⟩
  have z2 : 0 ≤ f ∧ f < F := Classical.byContradiction (fun w => z (if_neg w))
  refine ok_MO_isIn ?_
  simp only [c_ic, c_lc, c_nul, c_il, c_ll, c_al, c_is, c_ls, c_as, c_inc, c_b2, c_b2n, c_b1, c_d2, c_d2n, c_dsh, c_i2l, c_l2i, c_lcm, c_dup, c_dup2, c_pop, c_j1, c_j2, c_jn, c_sw0, c_sw, c_gI, c_gL, c_gR, c_gS, c_pI, c_pZ, c_pL, c_pR, c_iald, c_ialg, c_iast, c_iasg, c_bald, c_bast, c_lald, c_last, c_aald, c_aals, c_aast, c_alen, c_bnd, c_str, c_bndl, c_bnln, c_sval, c_scod, c_sbal, c_sbln, c_fmt, c_stop, c_iret, c_zret, c_nret, c_aret, c_vret, c_lret, c_cpy, c_callV, c_callS, tkA, lget, lput, lkill, jpush, vsz, jcat, lins, lent, List.length_cons, List.length_nil, List.replicate, List.append_nil, List.cons_append, List.nil_append, reduceIte, Nat.reduceAdd, Nat.reduceSub, Nat.reduceEqDiff, true_and, and_true, Nat.reduceLeDiff, Nat.lt_irrefl, Nat.succ_ne_self, forall_const, ne_eq, not_true_eq_false, not_false_eq_true, false_implies, implies_true, true_implies, true_or, or_true, or_false, false_or, eq_self, Int.reduceEq, Int.reduceLT, Int.reduceLE, Int.reduceNeg, Int.reduceToNat, Int.reduceAdd, Int.reduceSub, Int.reduceMul, Int.reduceNe, and_self, g_sI, g_sI2, g_sL1, g_sL, g_sL2, g_sR1, g_sR2, g_sR, g_sA, g_sA2, and_false, false_and, and_self, if_false, if_true, n1]
  refine ⟨fun z => h0 (fun w => by rw [if_pos w.2.2.1] at z; exact absurd z (by decide)), fun z => ?_⟩
  have z3 : 0 ≤ c ∧ c ≤ 29 := Classical.byContradiction (fun w => z (if_neg w))
  have e1 : wr (3 * (nt.length : Int)) = ((3 * nt.length : Nat) : Int) := by simp (disch := omega) only [wr_id]; omega
  have e2 : wr (((3 * nt.length : Nat) : Int) + 1) = ((3 * nt.length + 1 : Nat) : Int) := by simp (disch := omega) only [wr_id]; omega
  have e3 : wr (((3 * nt.length : Nat) : Int) + 2) = ((3 * nt.length + 2 : Nat) : Int) := by simp (disch := omega) only [wr_id]; omega
  simp only [e1, e2, e3, Int.toNat_natCast, inc_nat (show nt.length ≤ 100000 by omega)]
  refine ⟨fun z4 => ⟨⟨by omega, by omega⟩, ⟨by omega, by omega⟩, ⟨by omega, by omega⟩, h1 ⟨z1, z2, z3, by omega⟩⟩, fun z4 => h0 (by omega)⟩
theorem pr_told {k f c : Int} : Pr M_LB_told M_MO_told [.inl k, .inl f, .inl c] := by
  intro σ q hJ
  have hJ0 := hJ
  obtain ⟨n, T, K, F, r, N, P, CL, PL, U, nt, rfl, hT, hR, hW, hA, hI, hK, hM, hP, hN, hG⟩ := hJ0
  obtain ⟨q1, -, r2, -, q3, q4, q5, K4, F8, -⟩ := id hR
  obtain ⟨hU, hb, hm⟩ := id hN
  have h10 := hU.1.1
  have bad : ¬ ((0 ≤ k ∧ k < K) ∧ (0 ≤ f ∧ f < F) ∧ (0 ≤ c ∧ c ≤ 29) ∧ nt.length < 10) → Ct 60 M_MO_told [rf 10 0, .inl k, .inl f, .inl c] σ (fun y τ' => y = some (.inl (-1)) ∧ J (N, P) τ') := fun hb => ok_MO_told q4 q5 hm h10 (fun _ => ⟨rfl, hJ.sc th_sc⟩) (fun w => absurd w hb)
  refine i_LB_told (Nat.le_refl 4) ?_
  simp only [w_LB_told_52, w_LB_told_51, w_LB_told_28, w_LB_told_26, w_LB_told_0, c_ic, c_lc, c_nul, c_il, c_ll, c_al, c_is, c_ls, c_as, c_inc, c_b2, c_b2n, c_b1, c_d2, c_d2n, c_dsh, c_i2l, c_l2i, c_lcm, c_dup, c_dup2, c_pop, c_j1, c_j2, c_jn, c_sw0, c_sw, c_gI, c_gL, c_gR, c_gS, c_pI, c_pZ, c_pL, c_pR, c_iald, c_ialg, c_iast, c_iasg, c_bald, c_bast, c_lald, c_last, c_aald, c_aals, c_aast, c_alen, c_bnd, c_str, c_bndl, c_bnln, c_sval, c_scod, c_sbal, c_sbln, c_fmt, c_stop, c_iret, c_zret, c_nret, c_aret, c_vret, c_lret, c_cpy, c_callV, c_callS, tkA, lget, lput, lkill, jpush, vsz, jcat, lins, lent, List.length_cons, List.length_nil, List.replicate, List.append_nil, List.cons_append, List.nil_append, reduceIte, Nat.reduceAdd, Nat.reduceSub, Nat.reduceEqDiff, true_and, and_true, Nat.reduceLeDiff, Nat.lt_irrefl, Nat.succ_ne_self, forall_const, ne_eq, not_true_eq_false, not_false_eq_true, false_implies, implies_true, true_implies, true_or, or_true, or_false, false_or, eq_self, Int.reduceEq, Int.reduceLT, Int.reduceLE, Int.reduceNeg, Int.reduceToNat, Int.reduceAdd, Int.reduceSub, Int.reduceMul, Int.reduceNe, and_self]
  refine ok_LB_isKingdom hR ?_
  simp only [c_ic, c_lc, c_nul, c_il, c_ll, c_al, c_is, c_ls, c_as, c_inc, c_b2, c_b2n, c_b1, c_d2, c_d2n, c_dsh, c_i2l, c_l2i, c_lcm, c_dup, c_dup2, c_pop, c_j1, c_j2, c_jn, c_sw0, c_sw, c_gI, c_gL, c_gR, c_gS, c_pI, c_pZ, c_pL, c_pR, c_iald, c_ialg, c_iast, c_iasg, c_bald, c_bast, c_lald, c_last, c_aald, c_aals, c_aast, c_alen, c_bnd, c_str, c_bndl, c_bnln, c_sval, c_scod, c_sbal, c_sbln, c_fmt, c_stop, c_iret, c_zret, c_nret, c_aret, c_vret, c_lret, c_cpy, c_callV, c_callS, tkA, lget, lput, lkill, jpush, vsz, jcat, lins, lent, List.length_cons, List.length_nil, List.replicate, List.append_nil, List.cons_append, List.nil_append, reduceIte, Nat.reduceAdd, Nat.reduceSub, Nat.reduceEqDiff, true_and, and_true, Nat.reduceLeDiff, Nat.lt_irrefl, Nat.succ_ne_self, forall_const, ne_eq, not_true_eq_false, not_false_eq_true, false_implies, implies_true, true_implies, true_or, or_true, or_false, false_or, eq_self, Int.reduceEq, Int.reduceLT, Int.reduceLE, Int.reduceNeg, Int.reduceToNat, Int.reduceAdd, Int.reduceSub, Int.reduceMul, Int.reduceNe, and_self]
  refine ⟨fun z => ⟨⟨_, rfl⟩, bad (fun w => by rw [if_pos w.1] at z; exact absurd z (by decide))⟩, fun z => ?_⟩
  have z1 : 0 ≤ k ∧ k < K := Classical.byContradiction (fun w => z (if_neg w))
  refine ok_LB_isField hR ?_
  simp only [c_ic, c_lc, c_nul, c_il, c_ll, c_al, c_is, c_ls, c_as, c_inc, c_b2, c_b2n, c_b1, c_d2, c_d2n, c_dsh, c_i2l, c_l2i, c_lcm, c_dup, c_dup2, c_pop, c_j1, c_j2, c_jn, c_sw0, c_sw, c_gI, c_gL, c_gR, c_gS, c_pI, c_pZ, c_pL, c_pR, c_iald, c_ialg, c_iast, c_iasg, c_bald, c_bast, c_lald, c_last, c_aald, c_aals, c_aast, c_alen, c_bnd, c_str, c_bndl, c_bnln, c_sval, c_scod, c_sbal, c_sbln, c_fmt, c_stop, c_iret, c_zret, c_nret, c_aret, c_vret, c_lret, c_cpy, c_callV, c_callS, tkA, lget, lput, lkill, jpush, vsz, jcat, lins, lent, List.length_cons, List.length_nil, List.replicate, List.append_nil, List.cons_append, List.nil_append, reduceIte, Nat.reduceAdd, Nat.reduceSub, Nat.reduceEqDiff, true_and, and_true, Nat.reduceLeDiff, Nat.lt_irrefl, Nat.succ_ne_self, forall_const, ne_eq, not_true_eq_false, not_false_eq_true, false_implies, implies_true, true_implies, true_or, or_true, or_false, false_or, eq_self, Int.reduceEq, Int.reduceLT, Int.reduceLE, Int.reduceNeg, Int.reduceToNat, Int.reduceAdd, Int.reduceSub, Int.reduceMul, Int.reduceNe, and_self]
  refine ⟨fun z => ⟨⟨_, rfl⟩, bad (fun w => by rw [if_pos w.2.1] at z; exact absurd z (by decide))⟩, fun z => ?_⟩
  have z2 : 0 ≤ f ∧ f < F := Classical.byContradiction (fun w => z (if_neg w))
  refine ⟨fun z3 => ⟨⟨_, rfl⟩, bad (by omega)⟩, fun z3 => ⟨fun z4 => ?_, fun z4 => ⟨⟨_, rfl⟩, bad (by omega)⟩⟩⟩
  obtain ⟨k, rfl⟩ := Int.eq_ofNat_of_zero_le z1.1
  obtain ⟨f, rfl⟩ := Int.eq_ofNat_of_zero_le z2.1
  refine ok_RU_hear K4 hU (by omega) (by omega) ⟨by omega, by omega⟩ (fun w => ?_) (fun w τ t1 t2 => ?_)
  · simp only [c_ic, c_lc, c_nul, c_il, c_ll, c_al, c_is, c_ls, c_as, c_inc, c_b2, c_b2n, c_b1, c_d2, c_d2n, c_dsh, c_i2l, c_l2i, c_lcm, c_dup, c_dup2, c_pop, c_j1, c_j2, c_jn, c_sw0, c_sw, c_gI, c_gL, c_gR, c_gS, c_pI, c_pZ, c_pL, c_pR, c_iald, c_ialg, c_iast, c_iasg, c_bald, c_bast, c_lald, c_last, c_aald, c_aals, c_aast, c_alen, c_bnd, c_str, c_bndl, c_bnln, c_sval, c_scod, c_sbal, c_sbln, c_fmt, c_stop, c_iret, c_zret, c_nret, c_aret, c_vret, c_lret, c_cpy, c_callV, c_callS, tkA, lget, lput, lkill, jpush, vsz, jcat, lins, lent, List.length_cons, List.length_nil, List.replicate, List.append_nil, List.cons_append, List.nil_append, reduceIte, Nat.reduceAdd, Nat.reduceSub, Nat.reduceEqDiff, true_and, and_true, Nat.reduceLeDiff, Nat.lt_irrefl, Nat.succ_ne_self, forall_const, ne_eq, not_true_eq_false, not_false_eq_true, false_implies, implies_true, true_implies, true_or, or_true, or_false, false_or, eq_self, Int.reduceEq, Int.reduceLT, Int.reduceLE, Int.reduceNeg, Int.reduceToNat, Int.reduceAdd, Int.reduceSub, Int.reduceMul, Int.reduceNe, and_self]
    exact ⟨⟨_, rfl⟩, bad (by omega)⟩
  · have c7 := t2.2.1.1
    have hlen : (nt ++ [(k, f, c)]).length = nt.length + 1 := by simp
    rw [hlen] at c7
    simp only [c_ic, c_lc, c_nul, c_il, c_ll, c_al, c_is, c_ls, c_as, c_inc, c_b2, c_b2n, c_b1, c_d2, c_d2n, c_dsh, c_i2l, c_l2i, c_lcm, c_dup, c_dup2, c_pop, c_j1, c_j2, c_jn, c_sw0, c_sw, c_gI, c_gL, c_gR, c_gS, c_pI, c_pZ, c_pL, c_pR, c_iald, c_ialg, c_iast, c_iasg, c_bald, c_bast, c_lald, c_last, c_aald, c_aals, c_aast, c_alen, c_bnd, c_str, c_bndl, c_bnln, c_sval, c_scod, c_sbal, c_sbln, c_fmt, c_stop, c_iret, c_zret, c_nret, c_aret, c_vret, c_lret, c_cpy, c_callV, c_callS, tkA, lget, lput, lkill, jpush, vsz, jcat, lins, lent, List.length_cons, List.length_nil, List.replicate, List.append_nil, List.cons_append, List.nil_append, reduceIte, Nat.reduceAdd, Nat.reduceSub, Nat.reduceEqDiff, true_and, and_true, Nat.reduceLeDiff, Nat.lt_irrefl, Nat.succ_ne_self, forall_const, ne_eq, not_true_eq_false, not_false_eq_true, false_implies, implies_true, true_implies, true_or, or_true, or_false, false_or, eq_self, Int.reduceEq, Int.reduceLT, Int.reduceLE, Int.reduceNeg, Int.reduceToNat, Int.reduceAdd, Int.reduceSub, Int.reduceMul, Int.reduceNe, and_self, c7]
    refine ⟨⟨_, rfl⟩, ?_⟩
    have nS : ∀ k j o, k = 10 ∨ k = 73 → ¬ SRu k j o := fun k j o q w => by unfold SRu at w; omega
    have hm1 : MN τ nt := by
      refine ⟨by rw [t1.i (nS _ _ _ (by omega))]; exact hm.1, fun i hi => ?_⟩
      rw [t1.i (nS 73 0 _ (by omega)), t1.i (nS 73 0 _ (by omega)), t1.i (nS 73 0 _ (by omega))]
      exact hm.2 i hi
    refine ok_MO_told (by rw [t1.i (nS _ _ _ (by omega))]; exact q4) (by rw [t1.i (nS _ _ _ (by omega))]; exact q5) hm1 h10 (fun y => absurd ⟨z1, z2, ⟨by omega, by omega⟩, w⟩ y) (fun _ => ?_)
    have hF : Fr (fun k j o => SRu k j o ∨ Sc k j o ∨ (k = 73 ∧ j = 0) ∨ (k = 10 ∧ j = 0 ∧ o = 44)) σ (sI (sI (sI (sI (sI τ 10 0 0 0) 73 0 (3 * nt.length) k) 73 0 (3 * nt.length + 1) f) 73 0 (3 * nt.length + 2) c) 10 0 44 (nt.length + 1 : Nat)) := (((((t1.wk (fun k j o q => Or.inl q)).sI (by unfold Sc; omega)).sI (by omega)).sI (by omega)).sI (by omega)).sI (by omega)
    refine ⟨rfl, n, T, K, F, r, N, P, CL, PL, U, nt ++ [(k, f, c)], rfl, hT.fr hF ?_, hR.fr hF ?_, hW.fr hF ?_, hA.fr hF ?_, hI.fr hF ?_, hK.fr hF ?_, hM.fr hF ?_, hP.fr hF ?_, ?_, hG.fr hF ?_⟩
    rotate_left 8
    · refine ⟨?_, fun q hq => ?_, ?_, fun i hi => ?_⟩
      · exact t2.fr (S := fun k j o => k = 10 ∨ k = 73) (((((Fr.rf.sI (by omega)).sI (by omega)).sI (by omega)).sI (by omega)).sI (by omega)) (fun k j o q w => by unfold fD at q; omega)
      · rcases List.mem_append.mp hq with q1 | q1
        · exact hb q q1
        · rw [List.mem_singleton.mp q1]
          exact ⟨by show k < K; omega, by show f < F; omega⟩
      · simp only [g_sI, and_self, if_true, hlen]
      · rw [hlen] at hi
        simp only [g_sI, Nat.reduceEqDiff, false_and, if_false, true_and]
        by_cases y : i = nt.length
        · subst y
          rw [if_neg (by omega), if_neg (by omega), if_pos rfl, if_neg (by omega), if_pos rfl, if_pos rfl, List.getD_eq_getElem?_getD, List.getElem?_append_right (Nat.le_refl _), Nat.sub_self]
          exact ⟨rfl, rfl, rfl⟩
        · rw [if_neg (by omega), if_neg (by omega), if_neg (by omega), if_neg (by omega), if_neg (by omega), if_neg (by omega), if_neg (by omega), if_neg (by omega), if_neg (by omega), List.getD_eq_getElem?_getD, List.getElem?_append_left (by omega), ← List.getD_eq_getElem?_getD]
          exact hm1.2 i (by omega)
    all_goals (intro k j o q w; simp only [fR, fW, fA, fC, fU, fI, fK, fM, fP, fN, fD, fE, fG, fT, Sc, Sd, SFd, SFm, SW, SAk, SR, SRu, SP, SY, SM, SPl, SRr, SRd, SCa, SRe, false_or, or_false] at q w; omega)
