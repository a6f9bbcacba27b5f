/-! ===== 9a pairs: years ===== -/
theorem SAD {k j o : Nat} (h : SAk k j o ∨ SY 0 k j o ∨ (k = 2 ∧ j = 0)) : ¬ (k = 10 ∨ (49 ≤ k ∧ k ≤ 90)) := by simp only [SAk, SY, SW, SP] at h; omega
/-- what the model draws ahead of a year, and the year -/
theorem mo_yr {σ : jM} {Φ : jPh} {At : Nat → jWp} {c s i ig x Y v : Int} {K F r N : Nat} {CL : Nat → List Int} {ru G W : Nat → Int} {x5 : Option jV} (h : JV σ K F r N CL ru G v) (hr : σ.1 69 0 = W) (hW : WW K Y W) (hP : PF F W) (hY : Y ≤ 1998) (hg : σ.1 10 0 35 = ig) (hx : σ.2.1 10 0 40 = x) (hi : 0 ≤ i ∧ i ≤ 1000)
    (hp : ∀ τ x5, Fr (fun k j o => Sd k j o ∨ (k = 69 ∧ j = 0)) σ τ → MI τ N CL → τ.1 69 0 = yS (lwO v CL) ru G F (yq ig K (x, W)).2 → τ.2.1 10 0 40 = (yq ig K (x, W)).1 → At 49 [some (rf 10 0), some (.inl c), some (.inr (.inl s)), none, some (.inl (i + 1)), x5] [] τ) :
    (c_al 0 (c_ic 10 (c_callV 59 M_MO_draw 10 1 (c_al 0 (c_gI 10 35 (c_j2 (fun x y => y ≤ x) ((w_MO_years_92 At Φ 59)) (c_al 0 (c_gS 10 69 (fun _ => 0) (c_ic 16 (c_dup2 (c_ialg (c_ic 1 (c_al 0 (c_al 0 (c_gI 10 26 (c_callV 59 M_MO_draw 10 1 (c_b2 jshl (c_b2 jxor (c_iasg ((w_MO_years_92 At Φ 59))))))))))))))))))))) [some (rf 10 0), some (.inl c), some (.inr (.inl s)), none, some (.inl i), x5] [] σ := by
  obtain ⟨a1, a2, a3, a4, a5, a6, a7⟩ := id h
  have hK := a7.1
  have c26 : σ.1 10 0 26 = K := a1.2.2.2.2.2.1
  have ei : wr (i + 1) = i + 1 := wr_id (by omega) (by omega)
  -- the year
  have year : ∀ (τ : jM) (V : Nat → Int) (x' : Int) (x5 : Option jV), Fr (fun k j o => Sd k j o ∨ (k = 69 ∧ j = 0)) σ τ → MI τ N CL → τ.1 69 0 = V → WW K Y V → τ.2.1 10 0 40 = x' → V = (yq ig K (x, W)).2 → x' = (yq ig K (x, W)).1 → w_MO_years_142 At Φ 59 [some (rf 10 0), some (.inl c), some (.inr (.inl s)), none, some (.inl i), x5] [] τ := by
    intro τ V x' x5 t1 t2 t3 t4 t5 e1 e2
    have hJV : JV τ K F r N CL ru G v := h.fr t1 (fun k j o q w => by simp only [fR, Sd, Sc] at q w; have := a1.2.2.1; omega) (fun k j o q w => by simp only [fK, Sd, Sc] at q w; omega) t2
    obtain ⟨b1, b2, b3, b4, b5, b6, b7⟩ := id hJV
    simp only [w_MO_years_142, c_ic, c_lc, c_nul, c_il, c_ll, c_al, c_is, c_ls, c_as, c_inc, c_b2, c_b2n, c_b1, c_d2, c_d2n, c_dsh, c_i2l, c_l2i, c_lcm, c_dup, c_dup2, c_pop, c_j1, c_j2, c_jn, c_sw0, c_sw, c_gI, c_gL, c_gR, c_gS, c_pI, c_pZ, c_pL, c_pR, c_iald, c_ialg, c_iast, c_iasg, c_bald, c_bast, c_lald, c_last, c_aald, c_aals, c_aast, c_alen, c_bnd, c_str, c_bndl, c_bnln, c_sval, c_scod, c_sbal, c_sbln, c_fmt, c_stop, c_iret, c_zret, c_nret, c_aret, c_vret, c_lret, c_cpy, c_callV, c_callS, tkA, lget, lput, lkill, jpush, vsz, jcat, lins, lent, List.length_cons, List.length_nil, List.replicate, List.append_nil, List.cons_append, List.nil_append, reduceIte, Nat.reduceAdd, Nat.reduceSub, Nat.reduceEqDiff, true_and, and_true, Nat.reduceLeDiff, Nat.lt_irrefl, Nat.succ_ne_self, forall_const, ne_eq, not_true_eq_false, not_false_eq_true, false_implies, implies_true, true_implies, true_or, or_true, or_false, false_or, eq_self, Int.reduceEq, Int.reduceLT, Int.reduceLE, Int.reduceNeg, Int.reduceToNat, Int.reduceAdd, Int.reduceSub, Int.reduceMul, Int.reduceNe, and_self]
    refine ok_MO_goYear b3 (b2.lwm b6) (K := K) (F := F) (by rw [b4, b5]; exact b7) b1.2.2.2.2.2.2.1 (by rw [t3]; exact t4) (by omega) (fun υ u1 u2 => ?_)
    simp only [c_ic, c_lc, c_nul, c_il, c_ll, c_al, c_is, c_ls, c_as, c_inc, c_b2, c_b2n, c_b1, c_d2, c_d2n, c_dsh, c_i2l, c_l2i, c_lcm, c_dup, c_dup2, c_pop, c_j1, c_j2, c_jn, c_sw0, c_sw, c_gI, c_gL, c_gR, c_gS, c_pI, c_pZ, c_pL, c_pR, c_iald, c_ialg, c_iast, c_iasg, c_bald, c_bast, c_lald, c_last, c_aald, c_aals, c_aast, c_alen, c_bnd, c_str, c_bndl, c_bnln, c_sval, c_scod, c_sbal, c_sbln, c_fmt, c_stop, c_iret, c_zret, c_nret, c_aret, c_vret, c_lret, c_cpy, c_callV, c_callS, tkA, lget, lput, lkill, jpush, vsz, jcat, lins, lent, List.length_cons, List.length_nil, List.replicate, List.append_nil, List.cons_append, List.nil_append, reduceIte, Nat.reduceAdd, Nat.reduceSub, Nat.reduceEqDiff, true_and, and_true, Nat.reduceLeDiff, Nat.lt_irrefl, Nat.succ_ne_self, forall_const, ne_eq, not_true_eq_false, not_false_eq_true, false_implies, implies_true, true_implies, true_or, or_true, or_false, false_or, eq_self, Int.reduceEq, Int.reduceLT, Int.reduceLE, Int.reduceNeg, Int.reduceToNat, Int.reduceAdd, Int.reduceSub, Int.reduceMul, Int.reduceNe, and_self, ei]
    rw [b4, b5, t3]
    refine hp _ _ ((t1.tr (u1.wk (fun _ _ _ q => Or.inl q.sd))).sA (fun o => Or.inr ⟨rfl, rfl⟩)) u2.sAm ?_ ?_
    · rw [sA_row, ← e1]; rfl
    · rw [g_sA2, u1.l (by unfold SM; omega), t5, e2]
  -- the second draw
  have second : ∀ (τ : jM) (x5 : Option jV), Fr (fun k j o => Sd k j o ∨ (k = 69 ∧ j = 0)) σ τ → MI τ N CL → τ.1 69 0 = (yd1 ig K x W).2 → τ.2.1 10 0 40 = (yd1 ig K x W).1 → w_MO_years_92 At Φ 59 [some (rf 10 0), some (.inl c), some (.inr (.inl s)), none, some (.inl i), x5] [] τ := by
    intro τ x5 t1 t2 t3 t4
    have wOK := (yd1OK (ig := ig) (x := x) (F := F) ⟨by omega, hK.2⟩ hW hP)
    have eq2 : yq ig K (x, W) = yd2 K (yd1 ig K x W).1 (yd1 ig K x W).2 := rfl
    have wOK2 := (yd2OK (x := (yd1 ig K x W).1) ⟨by omega, hK.2⟩ wOK.1 wOK.2).1
    generalize (yd1 ig K x W).1 = x1 at *
    generalize (yd1 ig K x W).2 = W1 at *
    have k26 : τ.1 10 0 26 = K := by rw [t1.i (by simp only [Sd, Sc]; omega)]; exact c26
    simp only [w_MO_years_92, c_ic, c_lc, c_nul, c_il, c_ll, c_al, c_is, c_ls, c_as, c_inc, c_b2, c_b2n, c_b1, c_d2, c_d2n, c_dsh, c_i2l, c_l2i, c_lcm, c_dup, c_dup2, c_pop, c_j1, c_j2, c_jn, c_sw0, c_sw, c_gI, c_gL, c_gR, c_gS, c_pI, c_pZ, c_pL, c_pR, c_iald, c_ialg, c_iast, c_iasg, c_bald, c_bast, c_lald, c_last, c_aald, c_aals, c_aast, c_alen, c_bnd, c_str, c_bndl, c_bnln, c_sval, c_scod, c_sbal, c_sbln, c_fmt, c_stop, c_iret, c_zret, c_nret, c_aret, c_vret, c_lret, c_cpy, c_callV, c_callS, tkA, lget, lput, lkill, jpush, vsz, jcat, lins, lent, List.length_cons, List.length_nil, List.replicate, List.append_nil, List.cons_append, List.nil_append, reduceIte, Nat.reduceAdd, Nat.reduceSub, Nat.reduceEqDiff, true_and, and_true, Nat.reduceLeDiff, Nat.lt_irrefl, Nat.succ_ne_self, forall_const, ne_eq, not_true_eq_false, not_false_eq_true, false_implies, implies_true, true_implies, true_or, or_true, or_false, false_or, eq_self, Int.reduceEq, Int.reduceLT, Int.reduceLE, Int.reduceNeg, Int.reduceToNat, Int.reduceAdd, Int.reduceSub, Int.reduceMul, Int.reduceNe, and_self]
    refine ok_MO_draw (by decide) ?_
    rw [t4]
    simp only [c_ic, c_lc, c_nul, c_il, c_ll, c_al, c_is, c_ls, c_as, c_inc, c_b2, c_b2n, c_b1, c_d2, c_d2n, c_dsh, c_i2l, c_l2i, c_lcm, c_dup, c_dup2, c_pop, c_j1, c_j2, c_jn, c_sw0, c_sw, c_gI, c_gL, c_gR, c_gS, c_pI, c_pZ, c_pL, c_pR, c_iald, c_ialg, c_iast, c_iasg, c_bald, c_bast, c_lald, c_last, c_aald, c_aals, c_aast, c_alen, c_bnd, c_str, c_bndl, c_bnln, c_sval, c_scod, c_sbal, c_sbln, c_fmt, c_stop, c_iret, c_zret, c_nret, c_aret, c_vret, c_lret, c_cpy, c_callV, c_callS, tkA, lget, lput, lkill, jpush, vsz, jcat, lins, lent, List.length_cons, List.length_nil, List.replicate, List.append_nil, List.cons_append, List.nil_append, reduceIte, Nat.reduceAdd, Nat.reduceSub, Nat.reduceEqDiff, true_and, and_true, Nat.reduceLeDiff, Nat.lt_irrefl, Nat.succ_ne_self, forall_const, ne_eq, not_true_eq_false, not_false_eq_true, false_implies, implies_true, true_implies, true_or, or_true, or_false, false_or, eq_self, Int.reduceEq, Int.reduceLT, Int.reduceLE, Int.reduceNeg, Int.reduceToNat, Int.reduceAdd, Int.reduceSub, Int.reduceMul, Int.reduceNe, and_self, g_sI, g_sI2, g_sL1, g_sL, g_sL2, g_sR1, g_sR2, g_sR, g_sA, g_sA2, and_false, false_and, and_self, if_false, if_true, k26]
    have s1 : Fr (fun k j o => Sd k j o ∨ (k = 69 ∧ j = 0)) σ (sL τ 10 0 40 (dn x1)) := t1.sL (Or.inl (by unfold Sd Sc; omega))
    have s2 : MI (sL τ 10 0 40 (dn x1)) N CL := t2.sc (Fr.rf.sL (by unfold Sc; omega))
    refine ⟨fun z => ?_, fun z => ?_⟩
    · have e : yd2 K x1 W1 = (dn x1, W1) := by unfold yd2; rw [if_pos z]
      rw [e] at eq2 wOK2
      exact year _ W1 (dn x1) _ s1 s2 t3 wOK.1 (by simp only [g_sL, and_self, if_true]) (by rw [eq2]) (by rw [eq2])
    · refine ok_MO_draw (by omega) ?_
      simp only [c_ic, c_lc, c_nul, c_il, c_ll, c_al, c_is, c_ls, c_as, c_inc, c_b2, c_b2n, c_b1, c_d2, c_d2n, c_dsh, c_i2l, c_l2i, c_lcm, c_dup, c_dup2, c_pop, c_j1, c_j2, c_jn, c_sw0, c_sw, c_gI, c_gL, c_gR, c_gS, c_pI, c_pZ, c_pL, c_pR, c_iald, c_ialg, c_iast, c_iasg, c_bald, c_bast, c_lald, c_last, c_aald, c_aals, c_aast, c_alen, c_bnd, c_str, c_bndl, c_bnln, c_sval, c_scod, c_sbal, c_sbln, c_fmt, c_stop, c_iret, c_zret, c_nret, c_aret, c_vret, c_lret, c_cpy, c_callV, c_callS, tkA, lget, lput, lkill, jpush, vsz, jcat, lins, lent, List.length_cons, List.length_nil, List.replicate, List.append_nil, List.cons_append, List.nil_append, reduceIte, Nat.reduceAdd, Nat.reduceSub, Nat.reduceEqDiff, true_and, and_true, Nat.reduceLeDiff, Nat.lt_irrefl, Nat.succ_ne_self, forall_const, ne_eq, not_true_eq_false, not_false_eq_true, false_implies, implies_true, true_implies, true_or, or_true, or_false, false_or, eq_self, Int.reduceEq, Int.reduceLT, Int.reduceLE, Int.reduceNeg, Int.reduceToNat, Int.reduceAdd, Int.reduceSub, Int.reduceMul, Int.reduceNe, and_self, g_sI, g_sI2, g_sL1, g_sL, g_sL2, g_sR1, g_sR2, g_sR, g_sA, g_sA2, and_false, false_and, and_self, if_false, if_true]
      have ht := dv_in (dn (dn x1)) (m := K) (by omega) (by omega)
      obtain ⟨t, htt⟩ := Int.eq_ofNat_of_zero_le ht.1
      have xk := wOK.1.1 t (by omega)
      have e : yd2 K x1 W1 = (dn (dn x1), up W1 (4 * t) (min 30 (W1 (4 * t) + 2))) := by unfold yd2; rw [if_neg z, htt, Int.toNat_natCast]
      rw [e] at eq2 wOK2
      rw [htt] at ht ⊢
      have e1 : wr (wr (4 * (t : Int)) + 0) = ((4 * t : Nat) : Int) := by simp (disch := omega) only [wr_id]; omega
      have r69 : ∀ o, τ.1 69 0 o = W1 o := fun o => by rw [t3]
      simp only [eT69, eC69, jl69, Nat.reduceLT, c_ic, c_lc, c_nul, c_il, c_ll, c_al, c_is, c_ls, c_as, c_inc, c_b2, c_b2n, c_b1, c_d2, c_d2n, c_dsh, c_i2l, c_l2i, c_lcm, c_dup, c_dup2, c_pop, c_j1, c_j2, c_jn, c_sw0, c_sw, c_gI, c_gL, c_gR, c_gS, c_pI, c_pZ, c_pL, c_pR, c_iald, c_ialg, c_iast, c_iasg, c_bald, c_bast, c_lald, c_last, c_aald, c_aals, c_aast, c_alen, c_bnd, c_str, c_bndl, c_bnln, c_sval, c_scod, c_sbal, c_sbln, c_fmt, c_stop, c_iret, c_zret, c_nret, c_aret, c_vret, c_lret, c_cpy, c_callV, c_callS, tkA, lget, lput, lkill, jpush, vsz, jcat, lins, lent, List.length_cons, List.length_nil, List.replicate, List.append_nil, List.cons_append, List.nil_append, reduceIte, Nat.reduceAdd, Nat.reduceSub, Nat.reduceEqDiff, true_and, and_true, Nat.reduceLeDiff, Nat.lt_irrefl, Nat.succ_ne_self, forall_const, ne_eq, not_true_eq_false, not_false_eq_true, false_implies, implies_true, true_implies, true_or, or_true, or_false, false_or, eq_self, Int.reduceEq, Int.reduceLT, Int.reduceLE, Int.reduceNeg, Int.reduceToNat, Int.reduceAdd, Int.reduceSub, Int.reduceMul, Int.reduceNe, and_self, e1, Int.toNat_natCast, r69]
      refine ⟨⟨by omega, by omega⟩, ?_⟩
      rw [wr_id (by omega) (by omega)]
      refine ok_MA_min ?_
      simp only [eT69, eC69, jl69, Nat.reduceLT, c_ic, c_lc, c_nul, c_il, c_ll, c_al, c_is, c_ls, c_as, c_inc, c_b2, c_b2n, c_b1, c_d2, c_d2n, c_dsh, c_i2l, c_l2i, c_lcm, c_dup, c_dup2, c_pop, c_j1, c_j2, c_jn, c_sw0, c_sw, c_gI, c_gL, c_gR, c_gS, c_pI, c_pZ, c_pL, c_pR, c_iald, c_ialg, c_iast, c_iasg, c_bald, c_bast, c_lald, c_last, c_aald, c_aals, c_aast, c_alen, c_bnd, c_str, c_bndl, c_bnln, c_sval, c_scod, c_sbal, c_sbln, c_fmt, c_stop, c_iret, c_zret, c_nret, c_aret, c_vret, c_lret, c_cpy, c_callV, c_callS, tkA, lget, lput, lkill, jpush, vsz, jcat, lins, lent, List.length_cons, List.length_nil, List.replicate, List.append_nil, List.cons_append, List.nil_append, reduceIte, Nat.reduceAdd, Nat.reduceSub, Nat.reduceEqDiff, true_and, and_true, Nat.reduceLeDiff, Nat.lt_irrefl, Nat.succ_ne_self, forall_const, ne_eq, not_true_eq_false, not_false_eq_true, false_implies, implies_true, true_implies, true_or, or_true, or_false, false_or, eq_self, Int.reduceEq, Int.reduceLT, Int.reduceLE, Int.reduceNeg, Int.reduceToNat, Int.reduceAdd, Int.reduceSub, Int.reduceMul, Int.reduceNe, and_self, Int.toNat_natCast]
      refine ⟨⟨by omega, by omega⟩, ?_⟩
      refine year _ (up W1 (4 * t) (min 30 (W1 (4 * t) + 2))) (dn (dn x1)) _ ((s1.sL (Or.inl (by unfold Sd Sc; omega))).sI (Or.inr ⟨rfl, rfl⟩)) ?_ ?_ wOK2 ?_ (by rw [eq2]) (by rw [eq2])
      · rw [sI_sA]
        exact (s2.sc (Fr.rf.sL (by unfold Sc; omega))).sAm
      · rw [sI_row]
        show up (τ.1 69 0) (4 * t) _ = _
        rw [t3]
      · simp only [g_sI2, g_sL, and_self, if_true]
  simp only [c_ic, c_lc, c_nul, c_il, c_ll, c_al, c_is, c_ls, c_as, c_inc, c_b2, c_b2n, c_b1, c_d2, c_d2n, c_dsh, c_i2l, c_l2i, c_lcm, c_dup, c_dup2, c_pop, c_j1, c_j2, c_jn, c_sw0, c_sw, c_gI, c_gL, c_gR, c_gS, c_pI, c_pZ, c_pL, c_pR, c_iald, c_ialg, c_iast, c_iasg, c_bald, c_bast, c_lald, c_last, c_aald, c_aals, c_aast, c_alen, c_bnd, c_str, c_bndl, c_bnln, c_sval, c_scod, c_sbal, c_sbln, c_fmt, c_stop, c_iret, c_zret, c_nret, c_aret, c_vret, c_lret, c_cpy, c_callV, c_callS, tkA, lget, lput, lkill, jpush, vsz, jcat, lins, lent, List.length_cons, List.length_nil, List.replicate, List.append_nil, List.cons_append, List.nil_append, reduceIte, Nat.reduceAdd, Nat.reduceSub, Nat.reduceEqDiff, true_and, and_true, Nat.reduceLeDiff, Nat.lt_irrefl, Nat.succ_ne_self, forall_const, ne_eq, not_true_eq_false, not_false_eq_true, false_implies, implies_true, true_implies, true_or, or_true, or_false, false_or, eq_self, Int.reduceEq, Int.reduceLT, Int.reduceLE, Int.reduceNeg, Int.reduceToNat, Int.reduceAdd, Int.reduceSub, Int.reduceMul, Int.reduceNe, and_self]
  refine ok_MO_draw (by decide) ?_
  rw [hx]
  simp only [c_ic, c_lc, c_nul, c_il, c_ll, c_al, c_is, c_ls, c_as, c_inc, c_b2, c_b2n, c_b1, c_d2, c_d2n, c_dsh, c_i2l, c_l2i, c_lcm, c_dup, c_dup2, c_pop, c_j1, c_j2, c_jn, c_sw0, c_sw, c_gI, c_gL, c_gR, c_gS, c_pI, c_pZ, c_pL, c_pR, c_iald, c_ialg, c_iast, c_iasg, c_bald, c_bast, c_lald, c_last, c_aald, c_aals, c_aast, c_alen, c_bnd, c_str, c_bndl, c_bnln, c_sval, c_scod, c_sbal, c_sbln, c_fmt, c_stop, c_iret, c_zret, c_nret, c_aret, c_vret, c_lret, c_cpy, c_callV, c_callS, tkA, lget, lput, lkill, jpush, vsz, jcat, lins, lent, List.length_cons, List.length_nil, List.replicate, List.append_nil, List.cons_append, List.nil_append, reduceIte, Nat.reduceAdd, Nat.reduceSub, Nat.reduceEqDiff, true_and, and_true, Nat.reduceLeDiff, Nat.lt_irrefl, Nat.succ_ne_self, forall_const, ne_eq, not_true_eq_false, not_false_eq_true, false_implies, implies_true, true_implies, true_or, or_true, or_false, false_or, eq_self, Int.reduceEq, Int.reduceLT, Int.reduceLE, Int.reduceNeg, Int.reduceToNat, Int.reduceAdd, Int.reduceSub, Int.reduceMul, Int.reduceNe, and_self, g_sI, g_sI2, g_sL1, g_sL, g_sL2, g_sR1, g_sR2, g_sR, g_sA, g_sA2, and_false, false_and, and_self, if_false, if_true, eT69, eC69, jl69, Nat.reduceLT, hg, c26]
  have s1 : Fr (fun k j o => Sd k j o ∨ (k = 69 ∧ j = 0)) σ (sL σ 10 0 40 (dn x)) := Fr.rf.sL (Or.inl (by unfold Sd Sc; omega))
  have s2 : MI (sL σ 10 0 40 (dn x)) N CL := a3.sc (Fr.rf.sL (by unfold Sc; omega))
  refine ⟨fun z => ?_, fun z => ?_⟩
  · have e : yd1 ig K x W = (dn x, W) := by unfold yd1; rw [if_neg (by omega)]
    refine second _ _ s1 s2 ?_ ?_
    · rw [e]; exact hr
    · rw [e]; simp only [g_sL, and_self, if_true]
  · refine ok_MO_draw (by omega) ?_
    simp only [c_ic, c_lc, c_nul, c_il, c_ll, c_al, c_is, c_ls, c_as, c_inc, c_b2, c_b2n, c_b1, c_d2, c_d2n, c_dsh, c_i2l, c_l2i, c_lcm, c_dup, c_dup2, c_pop, c_j1, c_j2, c_jn, c_sw0, c_sw, c_gI, c_gL, c_gR, c_gS, c_pI, c_pZ, c_pL, c_pR, c_iald, c_ialg, c_iast, c_iasg, c_bald, c_bast, c_lald, c_last, c_aald, c_aals, c_aast, c_alen, c_bnd, c_str, c_bndl, c_bnln, c_sval, c_scod, c_sbal, c_sbln, c_fmt, c_stop, c_iret, c_zret, c_nret, c_aret, c_vret, c_lret, c_cpy, c_callV, c_callS, tkA, lget, lput, lkill, jpush, vsz, jcat, lins, lent, List.length_cons, List.length_nil, List.replicate, List.append_nil, List.cons_append, List.nil_append, reduceIte, Nat.reduceAdd, Nat.reduceSub, Nat.reduceEqDiff, true_and, and_true, Nat.reduceLeDiff, Nat.lt_irrefl, Nat.succ_ne_self, forall_const, ne_eq, not_true_eq_false, not_false_eq_true, false_implies, implies_true, true_implies, true_or, or_true, or_false, false_or, eq_self, Int.reduceEq, Int.reduceLT, Int.reduceLE, Int.reduceNeg, Int.reduceToNat, Int.reduceAdd, Int.reduceSub, Int.reduceMul, Int.reduceNe, and_self, g_sI, g_sI2, g_sL1, g_sL, g_sL2, g_sR1, g_sR2, g_sR, g_sA, g_sA2, and_false, false_and, and_self, if_false, if_true, eT69, eC69, jl69, Nat.reduceLT]
    have e : yd1 ig K x W = (dn (dn x), up W 16 (jxor (W 16) (jshl 1 (dv (dn (dn x)) K)))) := by unfold yd1; rw [if_pos (by omega)]
    have w16 : σ.1 69 0 16 = W 16 := by rw [hr]
    rw [w16]
    refine second _ _ ((s1.sL (Or.inl (by unfold Sd Sc; omega))).sI (Or.inr ⟨rfl, rfl⟩)) ?_ ?_ ?_
    · rw [sI_sA]
      exact (s2.sc (Fr.rf.sL (by unfold Sc; omega))).sAm
    · rw [sI_row, e]
      show up (σ.1 69 0) 16 _ = _
      rw [hr]
    · rw [e]; simp only [g_sI2, g_sL, and_self, if_true]
theorem pr_years {c s : Int} : Pr M_LB_years M_MO_years [.inl c, .inr (.inl s)] := by
  intro σ q hJ
  obtain ⟨n, T, K, F, r, N, P, CL, PL, U, nt, rfl, hJx⟩ := id hJ
  obtain ⟨hT, hR, hW, hA, hI, hK, hM, hP, hN, hG⟩ := id hJx
  obtain ⟨q1, -, r2, q2, -, q4, q5, K4, F8, q6⟩ := id hR
  obtain ⟨hC, hWW, hPF⟩ := id hW
  obtain ⟨-, -, ⟨w1, w2, w3, w4⟩, -⟩ := id hC
  have w18 := hWW.2.2.2.2.1
  have h40 := hA.1.1
  have bad : ¬ (0 < K ∧ (1 ≤ c ∧ c ≤ 30) ∧ σ.1 69 0 18 + c ≤ 999) → Ct 60 M_MO_years [rf 10 0, .inl c, .inr (.inl s)] σ (fun y τ' => y = some (.inl (-1)) ∧ J (N, P) τ') := by
    intro hb
    refine i_MO_years (Nat.le_add_right 4 2) (fun At h49 => ?_)
    simp only [w_MO_years_0, w_MO_years_39, c_ic, c_lc, c_nul, c_il, c_ll, c_al, c_is, c_ls, c_as, c_inc, c_b2, c_b2n, c_b1, c_d2, c_d2n, c_dsh, c_i2l, c_l2i, c_lcm, c_dup, c_dup2, c_pop, c_j1, c_j2, c_jn, c_sw0, c_sw, c_gI, c_gL, c_gR, c_gS, c_pI, c_pZ, c_pL, c_pR, c_iald, c_ialg, c_iast, c_iasg, c_bald, c_bast, c_lald, c_last, c_aald, c_aals, c_aast, c_alen, c_bnd, c_str, c_bndl, c_bnln, c_sval, c_scod, c_sbal, c_sbln, c_fmt, c_stop, c_iret, c_zret, c_nret, c_aret, c_vret, c_lret, c_cpy, c_callV, c_callS, tkA, lget, lput, lkill, jpush, vsz, jcat, lins, lent, List.length_cons, List.length_nil, List.replicate, List.append_nil, List.cons_append, List.nil_append, reduceIte, Nat.reduceAdd, Nat.reduceSub, Nat.reduceEqDiff, true_and, and_true, Nat.reduceLeDiff, Nat.lt_irrefl, Nat.succ_ne_self, forall_const, ne_eq, not_true_eq_false, not_false_eq_true, false_implies, implies_true, true_implies, true_or, or_true, or_false, false_or, eq_self, Int.reduceEq, Int.reduceLT, Int.reduceLE, Int.reduceNeg, Int.reduceToNat, Int.reduceAdd, Int.reduceSub, Int.reduceMul, Int.reduceNe, and_self, g_sI, g_sI2, g_sL1, g_sL, g_sL2, g_sR1, g_sR2, g_sR, g_sA, g_sA2, and_false, false_and, and_self, if_false, if_true, eT69, eC69, jl69, Nat.reduceLT, q4]
    refine ⟨fun _ => hJ.sc th_sc, fun z => ?_⟩
    refine ok_MO_isIn ?_
    simp only [c_ic, c_lc, c_nul, c_il, c_ll, c_al, c_is, c_ls, c_as, c_inc, c_b2, c_b2n, c_b1, c_d2, c_d2n, c_dsh, c_i2l, c_l2i, c_lcm, c_dup, c_dup2, c_pop, c_j1, c_j2, c_jn, c_sw0, c_sw, c_gI, c_gL, c_gR, c_gS, c_pI, c_pZ, c_pL, c_pR, c_iald, c_ialg, c_iast, c_iasg, c_bald, c_bast, c_lald, c_last, c_aald, c_aals, c_aast, c_alen, c_bnd, c_str, c_bndl, c_bnln, c_sval, c_scod, c_sbal, c_sbln, c_fmt, c_stop, c_iret, c_zret, c_nret, c_aret, c_vret, c_lret, c_cpy, c_callV, c_callS, tkA, lget, lput, lkill, jpush, vsz, jcat, lins, lent, List.length_cons, List.length_nil, List.replicate, List.append_nil, List.cons_append, List.nil_append, reduceIte, Nat.reduceAdd, Nat.reduceSub, Nat.reduceEqDiff, true_and, and_true, Nat.reduceLeDiff, Nat.lt_irrefl, Nat.succ_ne_self, forall_const, ne_eq, not_true_eq_false, not_false_eq_true, false_implies, implies_true, true_implies, true_or, or_true, or_false, false_or, eq_self, Int.reduceEq, Int.reduceLT, Int.reduceLE, Int.reduceNeg, Int.reduceToNat, Int.reduceAdd, Int.reduceSub, Int.reduceMul, Int.reduceNe, and_self, g_sI, g_sI2, g_sL1, g_sL, g_sL2, g_sR1, g_sR2, g_sR, g_sA, g_sA2, and_false, false_and, and_self, if_false, if_true, eT69, eC69, jl69, Nat.reduceLT]
    refine ⟨fun _ => hJ.sc th_sc, fun z2 => ?_⟩
    have z3 : 1 ≤ c ∧ c ≤ 30 := Classical.byContradiction (fun q => z2 (if_neg q))
    rw [wr_id (by omega) (by omega)]
    exact ⟨fun z4 => absurd hb (by omega), fun _ => hJ.sc th_sc⟩
  refine i_LB_years (Nat.le_succ 4) (fun At h46 => ?_)
  simp only [w_LB_years_0, w_LB_years_33, w_LB_years_35, c_ic, c_lc, c_nul, c_il, c_ll, c_al, c_is, c_ls, c_as, c_inc, c_b2, c_b2n, c_b1, c_d2, c_d2n, c_dsh, c_i2l, c_l2i, c_lcm, c_dup, c_dup2, c_pop, c_j1, c_j2, c_jn, c_sw0, c_sw, c_gI, c_gL, c_gR, c_gS, c_pI, c_pZ, c_pL, c_pR, c_iald, c_ialg, c_iast, c_iasg, c_bald, c_bast, c_lald, c_last, c_aald, c_aals, c_aast, c_alen, c_bnd, c_str, c_bndl, c_bnln, c_sval, c_scod, c_sbal, c_sbln, c_fmt, c_stop, c_iret, c_zret, c_nret, c_aret, c_vret, c_lret, c_cpy, c_callV, c_callS, tkA, lget, lput, lkill, jpush, vsz, jcat, lins, lent, List.length_cons, List.length_nil, List.replicate, List.append_nil, List.cons_append, List.nil_append, reduceIte, Nat.reduceAdd, Nat.reduceSub, Nat.reduceEqDiff, true_and, and_true, Nat.reduceLeDiff, Nat.lt_irrefl, Nat.succ_ne_self, forall_const, ne_eq, not_true_eq_false, not_false_eq_true, false_implies, implies_true, true_implies, true_or, or_true, or_false, false_or, eq_self, Int.reduceEq, Int.reduceLT, Int.reduceLE, Int.reduceNeg, Int.reduceToNat, Int.reduceAdd, Int.reduceSub, Int.reduceMul, Int.reduceNe, and_self]
  refine ok_LB_hasRealm hR ?_
  simp only [c_ic, c_lc, c_nul, c_il, c_ll, c_al, c_is, c_ls, c_as, c_inc, c_b2, c_b2n, c_b1, c_d2, c_d2n, c_dsh, c_i2l, c_l2i, c_lcm, c_dup, c_dup2, c_pop, c_j1, c_j2, c_jn, c_sw0, c_sw, c_gI, c_gL, c_gR, c_gS, c_pI, c_pZ, c_pL, c_pR, c_iald, c_ialg, c_iast, c_iasg, c_bald, c_bast, c_lald, c_last, c_aald, c_aals, c_aast, c_alen, c_bnd, c_str, c_bndl, c_bnln, c_sval, c_scod, c_sbal, c_sbln, c_fmt, c_stop, c_iret, c_zret, c_nret, c_aret, c_vret, c_lret, c_cpy, c_callV, c_callS, tkA, lget, lput, lkill, jpush, vsz, jcat, lins, lent, List.length_cons, List.length_nil, List.replicate, List.append_nil, List.cons_append, List.nil_append, reduceIte, Nat.reduceAdd, Nat.reduceSub, Nat.reduceEqDiff, true_and, and_true, Nat.reduceLeDiff, Nat.lt_irrefl, Nat.succ_ne_self, forall_const, ne_eq, not_true_eq_false, not_false_eq_true, false_implies, implies_true, true_implies, true_or, or_true, or_false, false_or, eq_self, Int.reduceEq, Int.reduceLT, Int.reduceLE, Int.reduceNeg, Int.reduceToNat, Int.reduceAdd, Int.reduceSub, Int.reduceMul, Int.reduceNe, and_self, w4]
  refine ⟨fun z => ⟨⟨_, rfl⟩, bad (fun w => by rw [if_pos w.1] at z; exact absurd z (by decide))⟩, fun z => ⟨fun z2 => ⟨⟨_, rfl⟩, bad (by omega)⟩, fun z2 => ⟨fun z3 => ⟨⟨_, rfl⟩, bad (by omega)⟩, fun z3 => ?_⟩⟩⟩
  have hK0 : 0 < K := Classical.byContradiction (fun q => z (if_neg q))
  rw [wr_id (by omega) (by omega)]
  refine ⟨fun z4 => ?_, fun z4 => ⟨⟨_, rfl⟩, bad (by omega)⟩⟩
  obtain ⟨c, rfl⟩ := Int.eq_ofNat_of_zero_le (show 0 ≤ c by omega)
  have hQ := hJx.q (Or.inr hK0)
  have hRW := hQ.2.2.2.2.2.2.2.2.2.1
  have hV0 := hQ.jv
  have g1 := hG.1
  generalize hru : σ.1 63 0 = ru at *
  generalize hgg : σ.1 66 0 = G at *
  generalize hww : σ.1 69 0 = W at *
  generalize hvv : σ.1 10 0 34 = v at *
  generalize hig : σ.1 10 0 35 = ig at *
  let z : Nat → Int × (Nat → Int) := zI (lwO v CL) ru G F ig K (s, W)
  have ok : ∀ i : Nat, i ≤ c → WW K (W 18 + i) (z i).2 ∧ PF F (z i).2 := fun i _ => zI_ok hRW (show WW K (W 18) (s, W).2 from hWW.lowY (Int.le_refl _)) hPF i
  have ok9 : ∀ i : Nat, i ≤ c → WW K 999 (z i).2 ∧ PF F (z i).2 := fun i hi => ⟨(ok i hi).1.wkY (by omega), (ok i hi).2⟩
  have zs : ∀ i, z (i + 1) = ((yq ig K (z i)).1, yS (lwO v CL) ru G F (yq ig K (z i)).2) := fun i => rfl
  have mo : ∀ (τ : jM), Fr (fun k j o => SAk k j o ∨ SY 0 k j o ∨ (k = 2 ∧ j = 0)) σ τ → AK τ K (kU (fun i => (z i).2) U c) → CW τ 0 K (z c).2 → Ct 60 M_MO_years [rf 10 0, .inl c, .inr (.inl s)] τ (fun y τ' => y = some (.inl ((z c).2 18)) ∧ J (N, P) τ') := by
    intro τ t1 t2 t3
    have m10 : ∀ o, τ.1 10 0 o = σ.1 10 0 o := fun o => t1.i (fun q => SAD q (by omega))
    have m69 : ∀ o, τ.1 69 0 o = W o := fun o => by rw [← hww]; exact t1.i (fun q => SAD q (by omega))
    have hMt : MI τ N CL := hM.fr t1 (fun k j o q w => by have := SAD w; unfold fM at q; omega)
    have t1' : Fr Sx σ τ := t1.wk (fun k j o q => q.elim (fun q => Or.inl q) (fun q => q.elim (fun q => Or.inr (Or.inl q)) (fun q => Or.inr (Or.inr (Or.inl (by unfold Sd Sc; omega))))))
    have hs : ∀ k j o, Sd k j o ∨ SR k j o ∨ (k = 69 ∧ j = 0) → Sx k j o := fun k j o q => q.elim (fun q => Or.inr (Or.inr (Or.inl q))) (fun q => q.elim (fun q => Or.inr (Or.inr (Or.inr (Or.inl q)))) (fun q => Or.inr (Or.inr (Or.inr (Or.inr q)))))
    refine i_MO_years (Nat.le_add_right 4 2) (fun At h49 => ?_)
    have key : ∀ (m q : Nat) (υ : jM) (x5 : Option jV), q + m = c → Fr (fun k j o => Sd k j o ∨ SR k j o ∨ (k = 69 ∧ j = 0)) τ υ → MI υ N CL → υ.1 69 0 = (z q).2 → υ.2.1 10 0 40 = (z q).1 → UM υ (kU (fun i => (z i).2) U q) → At 49 [some (rf 10 0), some (.inl c), some (.inr (.inl s)), none, some (.inl q), x5] [] υ := by
      intro m
      induction m with
      | zero =>
        intro q υ x5 hq u1 u2 u3 u5 u4
        obtain rfl : q = c := by omega
        refine h49 _ _ _ ?_
        have r69 : ∀ o, υ.1 69 0 o = (z q).2 o := fun o => by rw [u3]
        simp only [w_MO_years_49, w_MO_years_158, c_ic, c_lc, c_nul, c_il, c_ll, c_al, c_is, c_ls, c_as, c_inc, c_b2, c_b2n, c_b1, c_d2, c_d2n, c_dsh, c_i2l, c_l2i, c_lcm, c_dup, c_dup2, c_pop, c_j1, c_j2, c_jn, c_sw0, c_sw, c_gI, c_gL, c_gR, c_gS, c_pI, c_pZ, c_pL, c_pR, c_iald, c_ialg, c_iast, c_iasg, c_bald, c_bast, c_lald, c_last, c_aald, c_aals, c_aast, c_alen, c_bnd, c_str, c_bndl, c_bnln, c_sval, c_scod, c_sbal, c_sbln, c_fmt, c_stop, c_iret, c_zret, c_nret, c_aret, c_vret, c_lret, c_cpy, c_callV, c_callS, tkA, lget, lput, lkill, jpush, vsz, jcat, lins, lent, List.length_cons, List.length_nil, List.replicate, List.append_nil, List.cons_append, List.nil_append, reduceIte, Nat.reduceAdd, Nat.reduceSub, Nat.reduceEqDiff, true_and, and_true, Nat.reduceLeDiff, Nat.lt_irrefl, Nat.succ_ne_self, forall_const, ne_eq, not_true_eq_false, not_false_eq_true, false_implies, implies_true, true_implies, true_or, or_true, or_false, false_or, eq_self, Int.reduceEq, Int.reduceLT, Int.reduceLE, Int.reduceNeg, Int.reduceToNat, Int.reduceAdd, Int.reduceSub, Int.reduceMul, Int.reduceNe, and_self, eT69, eC69, jl69, Nat.reduceLT, r69]
        refine ⟨fun _ => ?_, fun w => absurd w (by omega)⟩
        refine hJx.acts (t1'.tr (u1.wk hs)) ?_ ?_ u4 ⟨?_, ?_⟩ u2
        · exact t2.fr u1 (fun k j o q w => by simp only [fC, Sd, Sc, SR] at q w; omega)
        · exact kU_all hA.2.1 q (fun p hp => ok9 p (by omega))
        · rw [u3]
          exact t3.fr u1 (fun k o q w => by simp only [Sd, Sc, SR] at w; omega)
        · rw [u3]; exact ok9 q (Nat.le_refl _)
      | succ m ih =>
        intro q υ x5 hq u1 u2 u3 u5 u4
        refine h49 _ _ _ ?_
        have hl := kU_len (w := fun i => (z i).2) h40 q
        have u1' : Fr Sx σ υ := t1'.tr (u1.wk hs)
        unfold w_MO_years_49
        show (_ → _) ∧ (_ → _)
        refine ⟨fun w => absurd w (by simp only; omega), fun _ => ?_⟩
        show _ ∧ _ ∧ Ct _ _ _ _ _
        refine ⟨rfl, Nat.zero_le _, ok_MO_remember u4.1 hl (fun φ f1 f2 f3 => ?_)⟩
        have f1' : Fr Sx σ φ := u1'.tr (f1.wk (fun k j o q => hs k j o (Or.inr (Or.inl q))))
        have hMφ : MI φ N CL := u2.fr f1 (fun k j o q w => by unfold fM at q; unfold SR at w; omega)
        have e69 : φ.1 69 0 = (z q).2 := by rw [f1.row (fun o w => by unfold SR at w; omega)]; exact u3
        have hJV : JV φ K F r N CL ru G v := hV0.fr f1' (fun k j o q w => by simp only [fR, Sx, SAk, SY, SW, SP, Sd, Sc, SR] at q w; omega) (fun k j o q w => by simp only [fK, Sx, SAk, SY, SW, SP, Sd, Sc, SR] at q w; omega) hMφ
        have h35 : φ.1 10 0 35 = ig := by rw [f1'.i (by simp only [Sx, SAk, SY, SW, SP, Sd, Sc, SR]; omega)]; exact hig
        have h40l : φ.2.1 10 0 40 = (z q).1 := by rw [f1.l (by unfold SR; omega)]; exact u5
        have okq := ok9 q (by omega)
        refine mo_yr (x := (z q).1) (W := (z q).2) hJV e69 okq.1 okq.2 (by decide) h35 h40l ⟨by omega, by omega⟩ (fun ψ x5' h1 h2 h3 h4 => ?_)
        rw [show (q : Int) + 1 = ((q + 1 : Nat) : Int) by omega]
        refine ih (q + 1) ψ _ (by omega) ((u1.tr (f1.wk (fun k j o q => Or.inr (Or.inl q)))).tr (h1.wk (fun k j o q => q.elim (fun q => Or.inl q) (fun q => Or.inr (Or.inr q))))) h2 (by rw [h3, zs]) (by rw [h4, zs]) ?_
        refine UM.keep u4 hl (τ := ψ) ?_ ?_
        · show ψ.1 72 0 = remS (υ.1 72 0) (z q).2 _
          rw [← u3, ← f2]
          exact h1.row (fun o w => by simp only [Sd, Sc] at w; omega)
        · rw [← f3]
          exact h1.i (by simp only [Sd, Sc]; omega)
    simp only [w_MO_years_0, w_MO_years_41, c_ic, c_lc, c_nul, c_il, c_ll, c_al, c_is, c_ls, c_as, c_inc, c_b2, c_b2n, c_b1, c_d2, c_d2n, c_dsh, c_i2l, c_l2i, c_lcm, c_dup, c_dup2, c_pop, c_j1, c_j2, c_jn, c_sw0, c_sw, c_gI, c_gL, c_gR, c_gS, c_pI, c_pZ, c_pL, c_pR, c_iald, c_ialg, c_iast, c_iasg, c_bald, c_bast, c_lald, c_last, c_aald, c_aals, c_aast, c_alen, c_bnd, c_str, c_bndl, c_bnln, c_sval, c_scod, c_sbal, c_sbln, c_fmt, c_stop, c_iret, c_zret, c_nret, c_aret, c_vret, c_lret, c_cpy, c_callV, c_callS, tkA, lget, lput, lkill, jpush, vsz, jcat, lins, lent, List.length_cons, List.length_nil, List.replicate, List.append_nil, List.cons_append, List.nil_append, reduceIte, Nat.reduceAdd, Nat.reduceSub, Nat.reduceEqDiff, true_and, and_true, Nat.reduceLeDiff, Nat.lt_irrefl, Nat.succ_ne_self, forall_const, ne_eq, not_true_eq_false, not_false_eq_true, false_implies, implies_true, true_implies, true_or, or_true, or_false, false_or, eq_self, Int.reduceEq, Int.reduceLT, Int.reduceLE, Int.reduceNeg, Int.reduceToNat, Int.reduceAdd, Int.reduceSub, Int.reduceMul, Int.reduceNe, and_self, g_sI, g_sI2, g_sL1, g_sL, g_sL2, g_sR1, g_sR2, g_sR, g_sA, g_sA2, and_false, false_and, and_self, if_false, if_true, eT69, eC69, jl69, Nat.reduceLT, m10, q4]
    refine ⟨fun w => absurd w (by omega), fun _ => ?_⟩
    refine ok_MO_isIn ?_
    rw [if_pos (by omega)]
    simp only [c_ic, c_lc, c_nul, c_il, c_ll, c_al, c_is, c_ls, c_as, c_inc, c_b2, c_b2n, c_b1, c_d2, c_d2n, c_dsh, c_i2l, c_l2i, c_lcm, c_dup, c_dup2, c_pop, c_j1, c_j2, c_jn, c_sw0, c_sw, c_gI, c_gL, c_gR, c_gS, c_pI, c_pZ, c_pL, c_pR, c_iald, c_ialg, c_iast, c_iasg, c_bald, c_bast, c_lald, c_last, c_aald, c_aals, c_aast, c_alen, c_bnd, c_str, c_bndl, c_bnln, c_sval, c_scod, c_sbal, c_sbln, c_fmt, c_stop, c_iret, c_zret, c_nret, c_aret, c_vret, c_lret, c_cpy, c_callV, c_callS, tkA, lget, lput, lkill, jpush, vsz, jcat, lins, lent, List.length_cons, List.length_nil, List.replicate, List.append_nil, List.cons_append, List.nil_append, reduceIte, Nat.reduceAdd, Nat.reduceSub, Nat.reduceEqDiff, true_and, and_true, Nat.reduceLeDiff, Nat.lt_irrefl, Nat.succ_ne_self, forall_const, ne_eq, not_true_eq_false, not_false_eq_true, false_implies, implies_true, true_implies, true_or, or_true, or_false, false_or, eq_self, Int.reduceEq, Int.reduceLT, Int.reduceLE, Int.reduceNeg, Int.reduceToNat, Int.reduceAdd, Int.reduceSub, Int.reduceMul, Int.reduceNe, and_self, g_sI, g_sI2, g_sL1, g_sL, g_sL2, g_sR1, g_sR2, g_sR, g_sA, g_sA2, and_false, false_and, and_self, if_false, if_true, eT69, eC69, jl69, Nat.reduceLT, m69]
    rw [wr_id (by omega) (by omega)]
    refine ⟨fun _ => ?_, fun w => absurd z4 w⟩
    have f0 : Fr Sc τ (sL (sI τ 10 0 0 0) 10 0 40 s) := (Fr.rf.sI (by unfold Sc; omega)).sL (by unfold Sc; omega)
    have := key c 0 (sL (sI τ 10 0 0 0) 10 0 40 s) none (Nat.zero_add _) (f0.wk (fun _ _ _ q => Or.inl (Or.inl q))) (hMt.sc f0) (by rw [f0.row (fun o w => by unfold Sc at w; omega)]; funext o; exact m69 o) (by simp only [g_sL, and_self, if_true]; rfl) (hA.2.2.fr (t1.wk (S' := fun k j o => (SAk k j o ∨ SY 0 k j o ∨ (k = 2 ∧ j = 0)) ∨ Sc k j o) (fun _ _ _ q => Or.inl q) |>.tr (f0.wk (fun _ _ _ q => Or.inr q))) (fun k j o q w => by simp only [fU, SAk, SY, SW, SP, Sc] at q w; omega))
    exact this
  have key : ∀ (m q : Nat) (τ : jM), q + m = c → Fr (fun k j o => SAk k j o ∨ SY 0 k j o ∨ (k = 2 ∧ j = 0)) σ τ → AK τ K (kU (fun i => (z i).2) U q) → CW τ 0 K (z q).2 → τ.2.1 2 0 0 = (z q).1 → At 46 [some (rf 9 0), some (.inl c), some (.inr (.inl s)), none, some (.inl q)] [] τ := by
    intro m
    induction m with
    | zero =>
      intro q τ hq t1 t2 t3 t4
      obtain rfl : q = c := by omega
      refine h46 _ _ _ ?_
      have c11 := t3.2.2.1.2.2.2
      simp only [w_LB_years_46, w_LB_years_89, c_ic, c_lc, c_nul, c_il, c_ll, c_al, c_is, c_ls, c_as, c_inc, c_b2, c_b2n, c_b1, c_d2, c_d2n, c_dsh, c_i2l, c_l2i, c_lcm, c_dup, c_dup2, c_pop, c_j1, c_j2, c_jn, c_sw0, c_sw, c_gI, c_gL, c_gR, c_gS, c_pI, c_pZ, c_pL, c_pR, c_iald, c_ialg, c_iast, c_iasg, c_bald, c_bast, c_lald, c_last, c_aald, c_aals, c_aast, c_alen, c_bnd, c_str, c_bndl, c_bnln, c_sval, c_scod, c_sbal, c_sbln, c_fmt, c_stop, c_iret, c_zret, c_nret, c_aret, c_vret, c_lret, c_cpy, c_callV, c_callS, tkA, lget, lput, lkill, jpush, vsz, jcat, lins, lent, List.length_cons, List.length_nil, List.replicate, List.append_nil, List.cons_append, List.nil_append, reduceIte, Nat.reduceAdd, Nat.reduceSub, Nat.reduceEqDiff, true_and, and_true, Nat.reduceLeDiff, Nat.lt_irrefl, Nat.succ_ne_self, forall_const, ne_eq, not_true_eq_false, not_false_eq_true, false_implies, implies_true, true_implies, true_or, or_true, or_false, false_or, eq_self, Int.reduceEq, Int.reduceLT, Int.reduceLE, Int.reduceNeg, Int.reduceToNat, Int.reduceAdd, Int.reduceSub, Int.reduceMul, Int.reduceNe, and_self, c11]
      exact ⟨fun _ => ⟨⟨_, rfl⟩, mo τ t1 t2 t3⟩, fun w => absurd w (by omega)⟩
    | succ m ih =>
      intro q τ hq t1 t2 t3 t4
      refine h46 _ _ _ ?_
      have okq := ok9 q (by omega)
      have hMt : MI τ N CL := hM.fr t1 (fun k j o q w => by have := SAD w; unfold fM at q; omega)
      simp only [w_LB_years_46, c_ic, c_lc, c_nul, c_il, c_ll, c_al, c_is, c_ls, c_as, c_inc, c_b2, c_b2n, c_b1, c_d2, c_d2n, c_dsh, c_i2l, c_l2i, c_lcm, c_dup, c_dup2, c_pop, c_j1, c_j2, c_jn, c_sw0, c_sw, c_gI, c_gL, c_gR, c_gS, c_pI, c_pZ, c_pL, c_pR, c_iald, c_ialg, c_iast, c_iasg, c_bald, c_bast, c_lald, c_last, c_aald, c_aals, c_aast, c_alen, c_bnd, c_str, c_bndl, c_bnln, c_sval, c_scod, c_sbal, c_sbln, c_fmt, c_stop, c_iret, c_zret, c_nret, c_aret, c_vret, c_lret, c_cpy, c_callV, c_callS, tkA, lget, lput, lkill, jpush, vsz, jcat, lins, lent, List.length_cons, List.length_nil, List.replicate, List.append_nil, List.cons_append, List.nil_append, reduceIte, Nat.reduceAdd, Nat.reduceSub, Nat.reduceEqDiff, true_and, and_true, Nat.reduceLeDiff, Nat.lt_irrefl, Nat.succ_ne_self, forall_const, ne_eq, not_true_eq_false, not_false_eq_true, false_implies, implies_true, true_implies, true_or, or_true, or_false, false_or, eq_self, Int.reduceEq, Int.reduceLT, Int.reduceLE, Int.reduceNeg, Int.reduceToNat, Int.reduceAdd, Int.reduceSub, Int.reduceMul, Int.reduceNe, and_self]
      refine ⟨fun w => absurd w (by omega), fun _ => ?_⟩
      refine ok_AC_keep K4 t2 t3 okq.1 (fun υ u1 u2 => ?_)
      have s1 : Fr (fun k j o => SAk k j o ∨ SY 0 k j o ∨ (k = 2 ∧ j = 0)) σ υ := t1.tr (u1.wk (fun _ _ _ q => Or.inl q))
      have hRu : JR υ K F r := hR.fr s1 (fun k j o q w => by simp only [fR, SAk, SY, SW, SP] at q w; omega)
      simp only [c_ic, c_lc, c_nul, c_il, c_ll, c_al, c_is, c_ls, c_as, c_inc, c_b2, c_b2n, c_b1, c_d2, c_d2n, c_dsh, c_i2l, c_l2i, c_lcm, c_dup, c_dup2, c_pop, c_j1, c_j2, c_jn, c_sw0, c_sw, c_gI, c_gL, c_gR, c_gS, c_pI, c_pZ, c_pL, c_pR, c_iald, c_ialg, c_iast, c_iasg, c_bald, c_bast, c_lald, c_last, c_aald, c_aals, c_aast, c_alen, c_bnd, c_str, c_bndl, c_bnln, c_sval, c_scod, c_sbal, c_sbln, c_fmt, c_stop, c_iret, c_zret, c_nret, c_aret, c_vret, c_lret, c_cpy, c_callV, c_callS, tkA, lget, lput, lkill, jpush, vsz, jcat, lins, lent, List.length_cons, List.length_nil, List.replicate, List.append_nil, List.cons_append, List.nil_append, reduceIte, Nat.reduceAdd, Nat.reduceSub, Nat.reduceEqDiff, true_and, and_true, Nat.reduceLeDiff, Nat.lt_irrefl, Nat.succ_ne_self, forall_const, ne_eq, not_true_eq_false, not_false_eq_true, false_implies, implies_true, true_implies, true_or, or_true, or_false, false_or, eq_self, Int.reduceEq, Int.reduceLT, Int.reduceLE, Int.reduceNeg, Int.reduceToNat, Int.reduceAdd, Int.reduceSub, Int.reduceMul, Int.reduceNe, and_self]
      refine ok_LB_drawAheadOfYear (ig := ig) (x := (z q).1) (W := (z q).2) hRu hK0 (by rw [s1.i (by simp only [SAk, SY, SW, SP]; omega), g1]) (by rw [u1.l (by unfold SAk; omega)]; exact t4) (t3.fr u1 (fun k o q w => by unfold SAk at w; omega)) okq.1 okq.2 (fun φ f1 f2 f3 => ?_)
      have s2 : Fr (fun k j o => SAk k j o ∨ SY 0 k j o ∨ (k = 2 ∧ j = 0)) σ φ := s1.tr (f1.wk (fun k j o q => q.elim (fun q => Or.inr (Or.inl (Or.inl q))) (fun q => Or.inr (Or.inr q))))
      have hMφ : MI φ N CL := hM.fr s2 (fun k j o q w => by have := SAD w; unfold fM at q; omega)
      have hJV : JV φ K F r N CL ru G v := hV0.fr s2 (fun k j o q w => by simp only [fR, SAk, SY, SW, SP] at q w; omega) (fun k j o q w => by simp only [fK, SAk, SY, SW, SP] at q w; omega) hMφ
      obtain ⟨b1, b2, b3, b4, b5, b6, b7⟩ := id hJV
      simp only [c_ic, c_lc, c_nul, c_il, c_ll, c_al, c_is, c_ls, c_as, c_inc, c_b2, c_b2n, c_b1, c_d2, c_d2n, c_dsh, c_i2l, c_l2i, c_lcm, c_dup, c_dup2, c_pop, c_j1, c_j2, c_jn, c_sw0, c_sw, c_gI, c_gL, c_gR, c_gS, c_pI, c_pZ, c_pL, c_pR, c_iald, c_ialg, c_iast, c_iasg, c_bald, c_bast, c_lald, c_last, c_aald, c_aals, c_aast, c_alen, c_bnd, c_str, c_bndl, c_bnln, c_sval, c_scod, c_sbal, c_sbln, c_fmt, c_stop, c_iret, c_zret, c_nret, c_aret, c_vret, c_lret, c_cpy, c_callV, c_callS, tkA, lget, lput, lkill, jpush, vsz, jcat, lins, lent, List.length_cons, List.length_nil, List.replicate, List.append_nil, List.cons_append, List.nil_append, reduceIte, Nat.reduceAdd, Nat.reduceSub, Nat.reduceEqDiff, true_and, and_true, Nat.reduceLeDiff, Nat.lt_irrefl, Nat.succ_ne_self, forall_const, ne_eq, not_true_eq_false, not_false_eq_true, false_implies, implies_true, true_implies, true_or, or_true, or_false, false_or, eq_self, Int.reduceEq, Int.reduceLT, Int.reduceLE, Int.reduceNeg, Int.reduceToNat, Int.reduceAdd, Int.reduceSub, Int.reduceMul, Int.reduceNe, and_self, b1.1]
      refine ok_LB_ruling b2 b3.1.1 b6 ?_
      simp only [c_ic, c_lc, c_nul, c_il, c_ll, c_al, c_is, c_ls, c_as, c_inc, c_b2, c_b2n, c_b1, c_d2, c_d2n, c_dsh, c_i2l, c_l2i, c_lcm, c_dup, c_dup2, c_pop, c_j1, c_j2, c_jn, c_sw0, c_sw, c_gI, c_gL, c_gR, c_gS, c_pI, c_pZ, c_pL, c_pR, c_iald, c_ialg, c_iast, c_iasg, c_bald, c_bast, c_lald, c_last, c_aald, c_aals, c_aast, c_alen, c_bnd, c_str, c_bndl, c_bnln, c_sval, c_scod, c_sbal, c_sbln, c_fmt, c_stop, c_iret, c_zret, c_nret, c_aret, c_vret, c_lret, c_cpy, c_callV, c_callS, tkA, lget, lput, lkill, jpush, vsz, jcat, lins, lent, List.length_cons, List.length_nil, List.replicate, List.append_nil, List.cons_append, List.nil_append, reduceIte, Nat.reduceAdd, Nat.reduceSub, Nat.reduceEqDiff, true_and, and_true, Nat.reduceLeDiff, Nat.lt_irrefl, Nat.succ_ne_self, forall_const, ne_eq, not_true_eq_false, not_false_eq_true, false_implies, implies_true, true_implies, true_or, or_true, or_false, false_or, eq_self, Int.reduceEq, Int.reduceLT, Int.reduceLE, Int.reduceNeg, Int.reduceToNat, Int.reduceAdd, Int.reduceSub, Int.reduceMul, Int.reduceNe, and_self]
      obtain ⟨-, -, -, -, -, -, -, -, -, b10⟩ := id b1
      rw [b4, b5] at b10
      rcases b10 with b10 | ⟨-, b10⟩
      · omega
      have yOK := yqOK (ig := ig) (s := z q) ⟨by omega, K4⟩ okq.1 okq.2
      refine Ct.z (ok_WO_passYear f3 (b2.lwc b3 b6) b10 b7 yOK.1 (by decide) (fun ψ g1' g2' => ?_))
      simp only [c_ic, c_lc, c_nul, c_il, c_ll, c_al, c_is, c_ls, c_as, c_inc, c_b2, c_b2n, c_b1, c_d2, c_d2n, c_dsh, c_i2l, c_l2i, c_lcm, c_dup, c_dup2, c_pop, c_j1, c_j2, c_jn, c_sw0, c_sw, c_gI, c_gL, c_gR, c_gS, c_pI, c_pZ, c_pL, c_pR, c_iald, c_ialg, c_iast, c_iasg, c_bald, c_bast, c_lald, c_last, c_aald, c_aals, c_aast, c_alen, c_bnd, c_str, c_bndl, c_bnln, c_sval, c_scod, c_sbal, c_sbln, c_fmt, c_stop, c_iret, c_zret, c_nret, c_aret, c_vret, c_lret, c_cpy, c_callV, c_callS, tkA, lget, lput, lkill, jpush, vsz, jcat, lins, lent, List.length_cons, List.length_nil, List.replicate, List.append_nil, List.cons_append, List.nil_append, reduceIte, Nat.reduceAdd, Nat.reduceSub, Nat.reduceEqDiff, true_and, and_true, Nat.reduceLeDiff, Nat.lt_irrefl, Nat.succ_ne_self, forall_const, ne_eq, not_true_eq_false, not_false_eq_true, false_implies, implies_true, true_implies, true_or, or_true, or_false, false_or, eq_self, Int.reduceEq, Int.reduceLT, Int.reduceLE, Int.reduceNeg, Int.reduceToNat, Int.reduceAdd, Int.reduceSub, Int.reduceMul, Int.reduceNe, and_self, inc_nat (show q ≤ 100000 by omega)]
      refine ih (q + 1) ψ (by omega) (s2.tr (g1'.wk (fun _ _ _ q => Or.inr (Or.inl q)))) ?_ ?_ ?_
      · exact (u2.fr f1 (fun k j o q w => by simp only [fC, SDr, SW] at q w; omega)).fr g1' (fun k j o q w => by simp only [fC, SY, SW, SP] at q w; omega)
      · rw [zs]; exact g2'
      · rw [zs, g1'.l (by simp only [SY, SW, SP]; omega)]; exact f2
  have := key c 0 (sL σ 2 0 0 s) (Nat.zero_add _) (Fr.rf.sL (Or.inr (Or.inr ⟨rfl, rfl⟩))) (hA.1.fr (S := fun k _ _ => k = 2) (Fr.rf.sL rfl) (fun k j o q w => by unfold fC at q; omega)) (hC.fr (S := fun k _ _ => k = 2) (Fr.rf.sL rfl) (fun k o q w => by omega)) (by simp only [g_sL, and_self, if_true]; rfl)
  exact this
