/-! ===== 72 what 'all' asks: the greatest, bits, sums ===== -/
def grF (v : Nat → Int) : Nat → Nat
  | 0 => 0
  | k + 1 => if v (grF v k) < v (k + 1) then k + 1 else grF v k
theorem grF_le (v : Nat → Int) : ∀ k, grF v k ≤ k
  | 0 => Nat.le_refl 0
  | k + 1 => by
    have := grF_le v k
    unfold grF
    split <;> omega
theorem grF_congr {u v : Nat → Int} : ∀ n, (∀ k, k ≤ n → u k = v k) → grF u n = grF v n
  | 0, _ => rfl
  | n + 1, h => by
    unfold grF
    have := grF_le v n
    rw [grF_congr n (fun k hk => h k (by omega)), h (n + 1) (by omega), h (grF v n) (by omega)]
theorem ok_LB_greatest {σ : jM} {Φ : jPh} {d k j s : Nat} (hk : eTc k = 0 ∧ eCl k = 0 ∧ 11 ≤ k ∧ k < 90) (hl : jln k j < 1000) (hs1 : 1 ≤ s) (hs : s ≤ jln k j) (h : Φ (some (.inl (grF (σ.1 k j) (s - 1)))) σ) : Ct (d + 1) M_LB_greatest [rf k j, .inl s] σ Φ := by
  refine i_LB_greatest (Nat.le_add_right 2 2) (fun At h4 => ?_)
  have key : ∀ (m i : Nat), i + 1 + m = s → At 4 [some (rf k j), some (.inl s), some (.inl (grF (σ.1 k j) i)), some (.inl (i + 1 : Nat))] [] σ := by
    intro m
    induction m with
    | zero =>
      intro i hi
      refine h4 _ _ _ ?_
      simp only [w_LB_greatest_36, w_LB_greatest_29, w_LB_greatest_28, w_LB_greatest_4, w_LB_greatest_0, c_ic, c_lc, c_nul, c_il, c_ll, c_al, c_is, c_ls, c_as, c_inc, c_b2, c_b2n, c_b1, c_d2, c_d2n, c_dsh, c_i2l, c_l2i, c_lcm, c_dup, c_dup2, c_pop, c_j1, c_j2, c_jn, c_sw0, c_sw, c_gI, c_gL, c_gR, c_gS, c_pI, c_pZ, c_pL, c_pR, c_iald, c_ialg, c_iast, c_iasg, c_bald, c_bast, c_lald, c_last, c_aald, c_aals, c_aast, c_alen, c_bnd, c_str, c_bndl, c_bnln, c_sval, c_scod, c_sbal, c_sbln, c_fmt, c_stop, c_iret, c_zret, c_nret, c_aret, c_vret, c_lret, c_cpy, c_callV, c_callS, tkA, lget, lput, lkill, jpush, vsz, jcat, lins, lent, List.length_cons, List.length_nil, List.replicate, List.append_nil, List.cons_append, List.nil_append, reduceIte, Nat.reduceAdd, Nat.reduceSub, Nat.reduceEqDiff, true_and, and_true, Nat.reduceLeDiff, Nat.lt_irrefl, Nat.succ_ne_self, forall_const, ne_eq, not_true_eq_false, not_false_eq_true, false_implies, implies_true, true_implies, true_or, or_true, or_false, false_or, eq_self, Int.reduceEq, Int.reduceLT, Int.reduceLE, Int.reduceNeg, Int.reduceToNat, Int.reduceAdd, Int.reduceSub, Int.reduceMul, Int.reduceNe, and_self]
      refine ⟨fun _ => ?_, fun z => absurd z (by omega)⟩
      rw [show i = s - 1 by omega]
      exact h
    | succ m ih =>
      intro i hi
      refine h4 _ _ _ ?_
      have hg := grF_le (σ.1 k j) i
      have := ih (i + 1) (by omega)
      unfold grF at this
      simp only [w_LB_greatest_36, w_LB_greatest_29, w_LB_greatest_28, w_LB_greatest_4, w_LB_greatest_0, c_ic, c_lc, c_nul, c_il, c_ll, c_al, c_is, c_ls, c_as, c_inc, c_b2, c_b2n, c_b1, c_d2, c_d2n, c_dsh, c_i2l, c_l2i, c_lcm, c_dup, c_dup2, c_pop, c_j1, c_j2, c_jn, c_sw0, c_sw, c_gI, c_gL, c_gR, c_gS, c_pI, c_pZ, c_pL, c_pR, c_iald, c_ialg, c_iast, c_iasg, c_bald, c_bast, c_lald, c_last, c_aald, c_aals, c_aast, c_alen, c_bnd, c_str, c_bndl, c_bnln, c_sval, c_scod, c_sbal, c_sbln, c_fmt, c_stop, c_iret, c_zret, c_nret, c_aret, c_vret, c_lret, c_cpy, c_callV, c_callS, tkA, lget, lput, lkill, jpush, vsz, jcat, lins, lent, List.length_cons, List.length_nil, List.replicate, List.append_nil, List.cons_append, List.nil_append, reduceIte, Nat.reduceAdd, Nat.reduceSub, Nat.reduceEqDiff, true_and, and_true, Nat.reduceLeDiff, Nat.lt_irrefl, Nat.succ_ne_self, forall_const, ne_eq, not_true_eq_false, not_false_eq_true, false_implies, implies_true, true_implies, true_or, or_true, or_false, false_or, eq_self, Int.reduceEq, Int.reduceLT, Int.reduceLE, Int.reduceNeg, Int.reduceToNat, Int.reduceAdd, Int.reduceSub, Int.reduceMul, Int.reduceNe, and_self, Int.toNat_natCast, inc_nat (show i + 1 ≤ 100000 by omega)]
      refine ⟨fun z => absurd z (by omega), fun _ => ⟨⟨hk.2.2.1, hk.2.2.2, by omega⟩, fun z => absurd z (by omega), fun _ => ⟨hk, ⟨by omega, by omega⟩, hk, ⟨by omega, by omega⟩, fun z => ?_, fun z => ?_⟩⟩⟩
      · rw [if_neg (by omega)] at this
        exact this
      · rw [if_pos (by omega)] at this
        exact this
  simp only [w_LB_greatest_0, c_ic, c_lc, c_nul, c_il, c_ll, c_al, c_is, c_ls, c_as, c_inc, c_b2, c_b2n, c_b1, c_d2, c_d2n, c_dsh, c_i2l, c_l2i, c_lcm, c_dup, c_dup2, c_pop, c_j1, c_j2, c_jn, c_sw0, c_sw, c_gI, c_gL, c_gR, c_gS, c_pI, c_pZ, c_pL, c_pR, c_iald, c_ialg, c_iast, c_iasg, c_bald, c_bast, c_lald, c_last, c_aald, c_aals, c_aast, c_alen, c_bnd, c_str, c_bndl, c_bnln, c_sval, c_scod, c_sbal, c_sbln, c_fmt, c_stop, c_iret, c_zret, c_nret, c_aret, c_vret, c_lret, c_cpy, c_callV, c_callS, tkA, lget, lput, lkill, jpush, vsz, jcat, lins, lent, List.length_cons, List.length_nil, List.replicate, List.append_nil, List.cons_append, List.nil_append, reduceIte, Nat.reduceAdd, Nat.reduceSub, Nat.reduceEqDiff, true_and, and_true, Nat.reduceLeDiff, Nat.lt_irrefl, Nat.succ_ne_self, forall_const, ne_eq, not_true_eq_false, not_false_eq_true, false_implies, implies_true, true_implies, true_or, or_true, or_false, false_or, eq_self, Int.reduceEq, Int.reduceLT, Int.reduceLE, Int.reduceNeg, Int.reduceToNat, Int.reduceAdd, Int.reduceSub, Int.reduceMul, Int.reduceNe, and_self]
  exact key (s - 1) 0 (by omega)
section ALLS
variable {σ : jM} {Φ : jPh} {d K F : Nat} {W : Nat → Int} {Y : Int}
theorem ok_MO_valueOf {what k : Nat} (hr : σ.1 69 0 = W) (hW : WW K Y W) (hw : what ≤ 4) (hk : k < 4) (h : Φ (some (.inl (if what < 4 then W (4 * k + what) else pgs W k))) σ) : Ct (d + 2) M_MO_valueOf [rf 10 0, .inl what, .inl k] σ Φ := by
  refine i_MO_valueOf (Nat.le_refl 3) ?_
  subst hr
  have e1 : wr (wr (4 * (k : Int)) + what) = ((4 * k + what : Nat) : Int) := by simp (disch := omega) only [wr_id]; omega
  simp only [w_MO_valueOf_26, w_MO_valueOf_18, w_MO_valueOf_0, c_ic, c_lc, c_nul, c_il, c_ll, c_al, c_is, c_ls, c_as, c_inc, c_b2, c_b2n, c_b1, c_d2, c_d2n, c_dsh, c_i2l, c_l2i, c_lcm, c_dup, c_dup2, c_pop, c_j1, c_j2, c_jn, c_sw0, c_sw, c_gI, c_gL, c_gR, c_gS, c_pI, c_pZ, c_pL, c_pR, c_iald, c_ialg, c_iast, c_iasg, c_bald, c_bast, c_lald, c_last, c_aald, c_aals, c_aast, c_alen, c_bnd, c_str, c_bndl, c_bnln, c_sval, c_scod, c_sbal, c_sbln, c_fmt, c_stop, c_iret, c_zret, c_nret, c_aret, c_vret, c_lret, c_cpy, c_callV, c_callS, tkA, lget, lput, lkill, jpush, vsz, jcat, lins, lent, List.length_cons, List.length_nil, List.replicate, List.append_nil, List.cons_append, List.nil_append, reduceIte, Nat.reduceAdd, Nat.reduceSub, Nat.reduceEqDiff, true_and, and_true, Nat.reduceLeDiff, Nat.lt_irrefl, Nat.succ_ne_self, forall_const, ne_eq, not_true_eq_false, not_false_eq_true, false_implies, implies_true, true_implies, true_or, or_true, or_false, false_or, eq_self, Int.reduceEq, Int.reduceLT, Int.reduceLE, Int.reduceNeg, Int.reduceToNat, Int.reduceAdd, Int.reduceSub, Int.reduceMul, Int.reduceNe, and_self, jln69, e1, Int.toNat_natCast]
  refine ⟨fun z => ?_, fun z => ⟨by decide, ⟨by omega, by omega⟩, ?_⟩⟩
  · rw [if_neg (by omega)] at h
    refine ok_MO_pagesOf hW.2.2.2.2.2.1 ?_
    simp only [c_ic, c_lc, c_nul, c_il, c_ll, c_al, c_is, c_ls, c_as, c_inc, c_b2, c_b2n, c_b1, c_d2, c_d2n, c_dsh, c_i2l, c_l2i, c_lcm, c_dup, c_dup2, c_pop, c_j1, c_j2, c_jn, c_sw0, c_sw, c_gI, c_gL, c_gR, c_gS, c_pI, c_pZ, c_pL, c_pR, c_iald, c_ialg, c_iast, c_iasg, c_bald, c_bast, c_lald, c_last, c_aald, c_aals, c_aast, c_alen, c_bnd, c_str, c_bndl, c_bnln, c_sval, c_scod, c_sbal, c_sbln, c_fmt, c_stop, c_iret, c_zret, c_nret, c_aret, c_vret, c_lret, c_cpy, c_callV, c_callS, tkA, lget, lput, lkill, jpush, vsz, jcat, lins, lent, List.length_cons, List.length_nil, List.replicate, List.append_nil, List.cons_append, List.nil_append, reduceIte, Nat.reduceAdd, Nat.reduceSub, Nat.reduceEqDiff, true_and, and_true, Nat.reduceLeDiff, Nat.lt_irrefl, Nat.succ_ne_self, forall_const, ne_eq, not_true_eq_false, not_false_eq_true, false_implies, implies_true, true_implies, true_or, or_true, or_false, false_or, eq_self, Int.reduceEq, Int.reduceLT, Int.reduceLE, Int.reduceNeg, Int.reduceToNat, Int.reduceAdd, Int.reduceSub, Int.reduceMul, Int.reduceNe, and_self]
    exact h
  · rw [if_pos (by omega)] at h
    exact h
theorem ok_MO_greatest {what : Nat} (hr : σ.1 69 0 = W) (hK : σ.1 10 0 26 = K) (hK1 : 1 ≤ K) (hK4 : K ≤ 4) (hW : WW K Y W) (hw : what ≤ 4) (h : Φ (some (.inl (grF (fun k => if what < 4 then W (4 * k + what) else pgs W k) (K - 1)))) σ) : Ct (d + 3) M_MO_greatest [rf 10 0, .inl what] σ Φ := by
  refine i_MO_greatest (Nat.le_add_right 2 2) (fun At h4 => ?_)
  have key : ∀ (m i : Nat), i + 1 + m = K → At 4 [some (rf 10 0), some (.inl what), some (.inl (grF (fun k => if what < 4 then W (4 * k + what) else pgs W k) i)), some (.inl (i + 1 : Nat))] [] σ := by
    intro m
    induction m with
    | zero =>
      intro i hi
      refine h4 _ _ _ ?_
      simp only [w_MO_greatest_39, w_MO_greatest_32, w_MO_greatest_31, w_MO_greatest_4, w_MO_greatest_0, c_ic, c_lc, c_nul, c_il, c_ll, c_al, c_is, c_ls, c_as, c_inc, c_b2, c_b2n, c_b1, c_d2, c_d2n, c_dsh, c_i2l, c_l2i, c_lcm, c_dup, c_dup2, c_pop, c_j1, c_j2, c_jn, c_sw0, c_sw, c_gI, c_gL, c_gR, c_gS, c_pI, c_pZ, c_pL, c_pR, c_iald, c_ialg, c_iast, c_iasg, c_bald, c_bast, c_lald, c_last, c_aald, c_aals, c_aast, c_alen, c_bnd, c_str, c_bndl, c_bnln, c_sval, c_scod, c_sbal, c_sbln, c_fmt, c_stop, c_iret, c_zret, c_nret, c_aret, c_vret, c_lret, c_cpy, c_callV, c_callS, tkA, lget, lput, lkill, jpush, vsz, jcat, lins, lent, List.length_cons, List.length_nil, List.replicate, List.append_nil, List.cons_append, List.nil_append, reduceIte, Nat.reduceAdd, Nat.reduceSub, Nat.reduceEqDiff, true_and, and_true, Nat.reduceLeDiff, Nat.lt_irrefl, Nat.succ_ne_self, forall_const, ne_eq, not_true_eq_false, not_false_eq_true, false_implies, implies_true, true_implies, true_or, or_true, or_false, false_or, eq_self, Int.reduceEq, Int.reduceLT, Int.reduceLE, Int.reduceNeg, Int.reduceToNat, Int.reduceAdd, Int.reduceSub, Int.reduceMul, Int.reduceNe, and_self, hK]
      refine ⟨fun _ => ?_, fun z => absurd z (by omega)⟩
      rw [show i = K - 1 by omega]
      exact h
    | succ m ih =>
      intro i hi
      refine h4 _ _ _ ?_
      have hg := grF_le (fun k : Nat => if what < 4 then W (4 * k + what) else pgs W k) i
      have := ih (i + 1) (by omega)
      unfold grF at this
      simp only [w_MO_greatest_4, c_ic, c_lc, c_nul, c_il, c_ll, c_al, c_is, c_ls, c_as, c_inc, c_b2, c_b2n, c_b1, c_d2, c_d2n, c_dsh, c_i2l, c_l2i, c_lcm, c_dup, c_dup2, c_pop, c_j1, c_j2, c_jn, c_sw0, c_sw, c_gI, c_gL, c_gR, c_gS, c_pI, c_pZ, c_pL, c_pR, c_iald, c_ialg, c_iast, c_iasg, c_bald, c_bast, c_lald, c_last, c_aald, c_aals, c_aast, c_alen, c_bnd, c_str, c_bndl, c_bnln, c_sval, c_scod, c_sbal, c_sbln, c_fmt, c_stop, c_iret, c_zret, c_nret, c_aret, c_vret, c_lret, c_cpy, c_callV, c_callS, tkA, lget, lput, lkill, jpush, vsz, jcat, lins, lent, List.length_cons, List.length_nil, List.replicate, List.append_nil, List.cons_append, List.nil_append, reduceIte, Nat.reduceAdd, Nat.reduceSub, Nat.reduceEqDiff, true_and, and_true, Nat.reduceLeDiff, Nat.lt_irrefl, Nat.succ_ne_self, forall_const, ne_eq, not_true_eq_false, not_false_eq_true, false_implies, implies_true, true_implies, true_or, or_true, or_false, false_or, eq_self, Int.reduceEq, Int.reduceLT, Int.reduceLE, Int.reduceNeg, Int.reduceToNat, Int.reduceAdd, Int.reduceSub, Int.reduceMul, Int.reduceNe, and_self, hK]
      refine ⟨fun z => absurd z (by omega), fun _ => ?_⟩
      refine ok_MO_valueOf hr hW hw (by omega) ?_
      simp only [c_ic, c_lc, c_nul, c_il, c_ll, c_al, c_is, c_ls, c_as, c_inc, c_b2, c_b2n, c_b1, c_d2, c_d2n, c_dsh, c_i2l, c_l2i, c_lcm, c_dup, c_dup2, c_pop, c_j1, c_j2, c_jn, c_sw0, c_sw, c_gI, c_gL, c_gR, c_gS, c_pI, c_pZ, c_pL, c_pR, c_iald, c_ialg, c_iast, c_iasg, c_bald, c_bast, c_lald, c_last, c_aald, c_aals, c_aast, c_alen, c_bnd, c_str, c_bndl, c_bnln, c_sval, c_scod, c_sbal, c_sbln, c_fmt, c_stop, c_iret, c_zret, c_nret, c_aret, c_vret, c_lret, c_cpy, c_callV, c_callS, tkA, lget, lput, lkill, jpush, vsz, jcat, lins, lent, List.length_cons, List.length_nil, List.replicate, List.append_nil, List.cons_append, List.nil_append, reduceIte, Nat.reduceAdd, Nat.reduceSub, Nat.reduceEqDiff, true_and, and_true, Nat.reduceLeDiff, Nat.lt_irrefl, Nat.succ_ne_self, forall_const, ne_eq, not_true_eq_false, not_false_eq_true, false_implies, implies_true, true_implies, true_or, or_true, or_false, false_or, eq_self, Int.reduceEq, Int.reduceLT, Int.reduceLE, Int.reduceNeg, Int.reduceToNat, Int.reduceAdd, Int.reduceSub, Int.reduceMul, Int.reduceNe, and_self]
      refine ok_MO_valueOf hr hW hw (by omega) ?_
      simp only [w_MO_greatest_31, w_MO_greatest_32, c_ic, c_lc, c_nul, c_il, c_ll, c_al, c_is, c_ls, c_as, c_inc, c_b2, c_b2n, c_b1, c_d2, c_d2n, c_dsh, c_i2l, c_l2i, c_lcm, c_dup, c_dup2, c_pop, c_j1, c_j2, c_jn, c_sw0, c_sw, c_gI, c_gL, c_gR, c_gS, c_pI, c_pZ, c_pL, c_pR, c_iald, c_ialg, c_iast, c_iasg, c_bald, c_bast, c_lald, c_last, c_aald, c_aals, c_aast, c_alen, c_bnd, c_str, c_bndl, c_bnln, c_sval, c_scod, c_sbal, c_sbln, c_fmt, c_stop, c_iret, c_zret, c_nret, c_aret, c_vret, c_lret, c_cpy, c_callV, c_callS, tkA, lget, lput, lkill, jpush, vsz, jcat, lins, lent, List.length_cons, List.length_nil, List.replicate, List.append_nil, List.cons_append, List.nil_append, reduceIte, Nat.reduceAdd, Nat.reduceSub, Nat.reduceEqDiff, true_and, and_true, Nat.reduceLeDiff, Nat.lt_irrefl, Nat.succ_ne_self, forall_const, ne_eq, not_true_eq_false, not_false_eq_true, false_implies, implies_true, true_implies, true_or, or_true, or_false, false_or, eq_self, Int.reduceEq, Int.reduceLT, Int.reduceLE, Int.reduceNeg, Int.reduceToNat, Int.reduceAdd, Int.reduceSub, Int.reduceMul, Int.reduceNe, and_self, inc_nat (show i + 1 ≤ 100000 by omega)]
      refine ⟨fun z => ?_, fun z => ?_⟩
      · rw [if_neg (by omega)] at this
        exact this
      · rw [if_pos (by omega)] at this
        exact this
  simp only [w_MO_greatest_0, c_ic, c_lc, c_nul, c_il, c_ll, c_al, c_is, c_ls, c_as, c_inc, c_b2, c_b2n, c_b1, c_d2, c_d2n, c_dsh, c_i2l, c_l2i, c_lcm, c_dup, c_dup2, c_pop, c_j1, c_j2, c_jn, c_sw0, c_sw, c_gI, c_gL, c_gR, c_gS, c_pI, c_pZ, c_pL, c_pR, c_iald, c_ialg, c_iast, c_iasg, c_bald, c_bast, c_lald, c_last, c_aald, c_aals, c_aast, c_alen, c_bnd, c_str, c_bndl, c_bnln, c_sval, c_scod, c_sbal, c_sbln, c_fmt, c_stop, c_iret, c_zret, c_nret, c_aret, c_vret, c_lret, c_cpy, c_callV, c_callS, tkA, lget, lput, lkill, jpush, vsz, jcat, lins, lent, List.length_cons, List.length_nil, List.replicate, List.append_nil, List.cons_append, List.nil_append, reduceIte, Nat.reduceAdd, Nat.reduceSub, Nat.reduceEqDiff, true_and, and_true, Nat.reduceLeDiff, Nat.lt_irrefl, Nat.succ_ne_self, forall_const, ne_eq, not_true_eq_false, not_false_eq_true, false_implies, implies_true, true_implies, true_or, or_true, or_false, false_or, eq_self, Int.reduceEq, Int.reduceLT, Int.reduceLE, Int.reduceNeg, Int.reduceToNat, Int.reduceAdd, Int.reduceSub, Int.reduceMul, Int.reduceNe, and_self]
  exact key (K - 1) 0 (by omega)
theorem ok_MO_bloodiest (hF : σ.1 10 0 27 = F) (hF1 : 1 ≤ F) (hF8 : F ≤ 8) (h : Φ (some (.inl (grF (fun f => σ.1 66 0 (4 * f + 3)) (F - 1)))) σ) : Ct (d + 1) M_MO_bloodiest [rf 10 0] σ Φ := by
  refine i_MO_bloodiest (Nat.le_add_right 1 2) (fun At h4 => ?_)
  have key : ∀ (m i : Nat), i + 1 + m = F → At 4 [some (rf 10 0), some (.inl (grF (fun f => σ.1 66 0 (4 * f + 3)) i)), some (.inl (i + 1 : Nat))] [] σ := by
    intro m
    induction m with
    | zero =>
      intro i hi
      refine h4 _ _ _ ?_
      simp only [w_MO_bloodiest_47, w_MO_bloodiest_40, w_MO_bloodiest_39, w_MO_bloodiest_4, w_MO_bloodiest_0, c_ic, c_lc, c_nul, c_il, c_ll, c_al, c_is, c_ls, c_as, c_inc, c_b2, c_b2n, c_b1, c_d2, c_d2n, c_dsh, c_i2l, c_l2i, c_lcm, c_dup, c_dup2, c_pop, c_j1, c_j2, c_jn, c_sw0, c_sw, c_gI, c_gL, c_gR, c_gS, c_pI, c_pZ, c_pL, c_pR, c_iald, c_ialg, c_iast, c_iasg, c_bald, c_bast, c_lald, c_last, c_aald, c_aals, c_aast, c_alen, c_bnd, c_str, c_bndl, c_bnln, c_sval, c_scod, c_sbal, c_sbln, c_fmt, c_stop, c_iret, c_zret, c_nret, c_aret, c_vret, c_lret, c_cpy, c_callV, c_callS, tkA, lget, lput, lkill, jpush, vsz, jcat, lins, lent, List.length_cons, List.length_nil, List.replicate, List.append_nil, List.cons_append, List.nil_append, reduceIte, Nat.reduceAdd, Nat.reduceSub, Nat.reduceEqDiff, true_and, and_true, Nat.reduceLeDiff, Nat.lt_irrefl, Nat.succ_ne_self, forall_const, ne_eq, not_true_eq_false, not_false_eq_true, false_implies, implies_true, true_implies, true_or, or_true, or_false, false_or, eq_self, Int.reduceEq, Int.reduceLT, Int.reduceLE, Int.reduceNeg, Int.reduceToNat, Int.reduceAdd, Int.reduceSub, Int.reduceMul, Int.reduceNe, and_self, hF]
      refine ⟨fun _ => ?_, fun z => absurd z (by omega)⟩
      rw [show i = F - 1 by omega]
      exact h
    | succ m ih =>
      intro i hi
      refine h4 _ _ _ ?_
      have hg := grF_le (fun f : Nat => σ.1 66 0 (4 * f + 3)) i
      have := ih (i + 1) (by omega)
      unfold grF at this
      have e1 : wr (wr (4 * ((i + 1 : Nat) : Int)) + 3) = ((4 * (i + 1) + 3 : Nat) : Int) := by simp (disch := omega) only [wr_id]; omega
      have e2 : wr (wr (4 * ((grF (fun f : Nat => σ.1 66 0 (4 * f + 3)) i : Nat) : Int)) + 3) = ((4 * grF (fun f : Nat => σ.1 66 0 (4 * f + 3)) i + 3 : Nat) : Int) := by simp (disch := omega) only [wr_id]; omega
      simp only [w_MO_bloodiest_47, w_MO_bloodiest_40, w_MO_bloodiest_39, w_MO_bloodiest_4, w_MO_bloodiest_0, c_ic, c_lc, c_nul, c_il, c_ll, c_al, c_is, c_ls, c_as, c_inc, c_b2, c_b2n, c_b1, c_d2, c_d2n, c_dsh, c_i2l, c_l2i, c_lcm, c_dup, c_dup2, c_pop, c_j1, c_j2, c_jn, c_sw0, c_sw, c_gI, c_gL, c_gR, c_gS, c_pI, c_pZ, c_pL, c_pR, c_iald, c_ialg, c_iast, c_iasg, c_bald, c_bast, c_lald, c_last, c_aald, c_aals, c_aast, c_alen, c_bnd, c_str, c_bndl, c_bnln, c_sval, c_scod, c_sbal, c_sbln, c_fmt, c_stop, c_iret, c_zret, c_nret, c_aret, c_vret, c_lret, c_cpy, c_callV, c_callS, tkA, lget, lput, lkill, jpush, vsz, jcat, lins, lent, List.length_cons, List.length_nil, List.replicate, List.append_nil, List.cons_append, List.nil_append, reduceIte, Nat.reduceAdd, Nat.reduceSub, Nat.reduceEqDiff, true_and, and_true, Nat.reduceLeDiff, Nat.lt_irrefl, Nat.succ_ne_self, forall_const, ne_eq, not_true_eq_false, not_false_eq_true, false_implies, implies_true, true_implies, true_or, or_true, or_false, false_or, eq_self, Int.reduceEq, Int.reduceLT, Int.reduceLE, Int.reduceNeg, Int.reduceToNat, Int.reduceAdd, Int.reduceSub, Int.reduceMul, Int.reduceNe, and_self, hF, e1, e2, Int.toNat_natCast, inc_nat (show i + 1 ≤ 100000 by omega)]
      refine ⟨fun z => absurd z (by omega), fun _ => ⟨⟨by omega, by omega⟩, ⟨by omega, by omega⟩, fun z => ?_, fun z => ?_⟩⟩
      · rw [if_neg (by omega)] at this
        exact this
      · rw [if_pos (by omega)] at this
        exact this
  simp only [w_MO_bloodiest_0, c_ic, c_lc, c_nul, c_il, c_ll, c_al, c_is, c_ls, c_as, c_inc, c_b2, c_b2n, c_b1, c_d2, c_d2n, c_dsh, c_i2l, c_l2i, c_lcm, c_dup, c_dup2, c_pop, c_j1, c_j2, c_jn, c_sw0, c_sw, c_gI, c_gL, c_gR, c_gS, c_pI, c_pZ, c_pL, c_pR, c_iald, c_ialg, c_iast, c_iasg, c_bald, c_bast, c_lald, c_last, c_aald, c_aals, c_aast, c_alen, c_bnd, c_str, c_bndl, c_bnln, c_sval, c_scod, c_sbal, c_sbln, c_fmt, c_stop, c_iret, c_zret, c_nret, c_aret, c_vret, c_lret, c_cpy, c_callV, c_callS, tkA, lget, lput, lkill, jpush, vsz, jcat, lins, lent, List.length_cons, List.length_nil, List.replicate, List.append_nil, List.cons_append, List.nil_append, reduceIte, Nat.reduceAdd, Nat.reduceSub, Nat.reduceEqDiff, true_and, and_true, Nat.reduceLeDiff, Nat.lt_irrefl, Nat.succ_ne_self, forall_const, ne_eq, not_true_eq_false, not_false_eq_true, false_implies, implies_true, true_implies, true_or, or_true, or_false, false_or, eq_self, Int.reduceEq, Int.reduceLT, Int.reduceLE, Int.reduceNeg, Int.reduceToNat, Int.reduceAdd, Int.reduceSub, Int.reduceMul, Int.reduceNe, and_self]
  exact key (F - 1) 0 (by omega)
theorem ok_MO_writers {have_ : Int} (hr : σ.1 69 0 = W) (hK : σ.1 10 0 26 = K) (hK4 : K ≤ 4) (hW : WW K Y W) (h : Φ (some (.inl (orF (if have_ = 0 then nvB W else alB W) K))) σ) : Ct (d + 2) M_MO_writers [rf 10 0, .inl have_] σ Φ := by
  refine i_MO_writers (Nat.le_add_right 2 4) (fun At h4 => ?_)
  subst hr
  have key : ∀ (m i : Nat) (x y : Option jV), i + m = K → At 4 [some (rf 10 0), some (.inl have_), some (.inl (orF (if have_ = 0 then nvB (σ.1 69 0) else alB (σ.1 69 0)) i)), some (.inl i), x, y] [] σ := by
    intro m
    induction m with
    | zero =>
      intro i x y hi
      refine h4 _ _ _ ?_
      simp only [w_MO_writers_4, w_MO_writers_85, c_ic, c_lc, c_nul, c_il, c_ll, c_al, c_is, c_ls, c_as, c_inc, c_b2, c_b2n, c_b1, c_d2, c_d2n, c_dsh, c_i2l, c_l2i, c_lcm, c_dup, c_dup2, c_pop, c_j1, c_j2, c_jn, c_sw0, c_sw, c_gI, c_gL, c_gR, c_gS, c_pI, c_pZ, c_pL, c_pR, c_iald, c_ialg, c_iast, c_iasg, c_bald, c_bast, c_lald, c_last, c_aald, c_aals, c_aast, c_alen, c_bnd, c_str, c_bndl, c_bnln, c_sval, c_scod, c_sbal, c_sbln, c_fmt, c_stop, c_iret, c_zret, c_nret, c_aret, c_vret, c_lret, c_cpy, c_callV, c_callS, tkA, lget, lput, lkill, jpush, vsz, jcat, lins, lent, List.length_cons, List.length_nil, List.replicate, List.append_nil, List.cons_append, List.nil_append, reduceIte, Nat.reduceAdd, Nat.reduceSub, Nat.reduceEqDiff, true_and, and_true, Nat.reduceLeDiff, Nat.lt_irrefl, Nat.succ_ne_self, forall_const, ne_eq, not_true_eq_false, not_false_eq_true, false_implies, implies_true, true_implies, true_or, or_true, or_false, false_or, eq_self, Int.reduceEq, Int.reduceLT, Int.reduceLE, Int.reduceNeg, Int.reduceToNat, Int.reduceAdd, Int.reduceSub, Int.reduceMul, Int.reduceNe, and_self, hK]
      refine ⟨fun _ => ?_, fun z => absurd z (by omega)⟩
      rw [show i = K by omega]
      exact h
    | succ m ih =>
      intro i x y hi
      refine h4 _ _ _ ?_
      have hp := pgs_in hW i
      have e : ∀ v : Nat → Int, orF v (i + 1) = jor (orF v i) (v i) := fun _ => rfl
      have e1 : wr (wr (4 * (i : Int)) + 3) = ((4 * i + 3 : Nat) : Int) := by simp (disch := omega) only [wr_id]; omega
      have t := fun x y => ih (i + 1) x y (by omega)
      simp only [e] at t
      simp only [w_MO_writers_4, c_ic, c_lc, c_nul, c_il, c_ll, c_al, c_is, c_ls, c_as, c_inc, c_b2, c_b2n, c_b1, c_d2, c_d2n, c_dsh, c_i2l, c_l2i, c_lcm, c_dup, c_dup2, c_pop, c_j1, c_j2, c_jn, c_sw0, c_sw, c_gI, c_gL, c_gR, c_gS, c_pI, c_pZ, c_pL, c_pR, c_iald, c_ialg, c_iast, c_iasg, c_bald, c_bast, c_lald, c_last, c_aald, c_aals, c_aast, c_alen, c_bnd, c_str, c_bndl, c_bnln, c_sval, c_scod, c_sbal, c_sbln, c_fmt, c_stop, c_iret, c_zret, c_nret, c_aret, c_vret, c_lret, c_cpy, c_callV, c_callS, tkA, lget, lput, lkill, jpush, vsz, jcat, lins, lent, List.length_cons, List.length_nil, List.replicate, List.append_nil, List.cons_append, List.nil_append, reduceIte, Nat.reduceAdd, Nat.reduceSub, Nat.reduceEqDiff, true_and, and_true, Nat.reduceLeDiff, Nat.lt_irrefl, Nat.succ_ne_self, forall_const, ne_eq, not_true_eq_false, not_false_eq_true, false_implies, implies_true, true_implies, true_or, or_true, or_false, false_or, eq_self, Int.reduceEq, Int.reduceLT, Int.reduceLE, Int.reduceNeg, Int.reduceToNat, Int.reduceAdd, Int.reduceSub, Int.reduceMul, Int.reduceNe, and_self, hK]
      refine ⟨fun z => absurd z (by omega), fun _ => ?_⟩
      refine ok_MO_pagesOf hW.2.2.2.2.2.1 ?_
      simp only [w_MO_writers_27, w_MO_writers_28, w_MO_writers_39, w_MO_writers_61, w_MO_writers_62, w_MO_writers_76, w_MO_writers_77, c_ic, c_lc, c_nul, c_il, c_ll, c_al, c_is, c_ls, c_as, c_inc, c_b2, c_b2n, c_b1, c_d2, c_d2n, c_dsh, c_i2l, c_l2i, c_lcm, c_dup, c_dup2, c_pop, c_j1, c_j2, c_jn, c_sw0, c_sw, c_gI, c_gL, c_gR, c_gS, c_pI, c_pZ, c_pL, c_pR, c_iald, c_ialg, c_iast, c_iasg, c_bald, c_bast, c_lald, c_last, c_aald, c_aals, c_aast, c_alen, c_bnd, c_str, c_bndl, c_bnln, c_sval, c_scod, c_sbal, c_sbln, c_fmt, c_stop, c_iret, c_zret, c_nret, c_aret, c_vret, c_lret, c_cpy, c_callV, c_callS, tkA, lget, lput, lkill, jpush, vsz, jcat, lins, lent, List.length_cons, List.length_nil, List.replicate, List.append_nil, List.cons_append, List.nil_append, reduceIte, Nat.reduceAdd, Nat.reduceSub, Nat.reduceEqDiff, true_and, and_true, Nat.reduceLeDiff, Nat.lt_irrefl, Nat.succ_ne_self, forall_const, ne_eq, not_true_eq_false, not_false_eq_true, false_implies, implies_true, true_implies, true_or, or_true, or_false, false_or, eq_self, Int.reduceEq, Int.reduceLT, Int.reduceLE, Int.reduceNeg, Int.reduceToNat, Int.reduceAdd, Int.reduceSub, Int.reduceMul, Int.reduceNe, and_self, jln69, e1, Int.toNat_natCast, inc_nat (show i ≤ 100000 by omega)]
      by_cases hv : have_ = 0
      · simp only [if_pos hv, nvB] at t ⊢
        refine ⟨fun z => ⟨fun _ => ⟨by decide, ⟨by omega, by omega⟩, fun z2 => ?_, fun z2 => ?_⟩, fun q => absurd hv q⟩, fun z => ⟨fun _ => ?_, fun q => absurd hv q⟩⟩
        · have := t (some (.inl 0)) (some (.inl 0))
          rw [if_neg (by omega)] at this
          exact this
        · have := t (some (.inl 0)) (some (.inl 1))
          rw [if_pos (by omega)] at this
          exact this
        · have := t (some (.inl 1)) (some (.inl 0))
          rw [if_neg (by omega)] at this
          exact this
      · simp only [if_neg hv, alB] at t ⊢
        refine ⟨fun z => ⟨fun q => absurd q hv, fun _ => ?_⟩, fun z => ⟨fun q => absurd q hv, fun _ => ?_⟩⟩
        · have := t (some (.inl 0)) (some (.inl 0))
          rw [if_neg (by omega)] at this
          exact this
        · have := t (some (.inl 1)) (some (.inl 1))
          rw [if_pos (by omega)] at this
          exact this
  simp only [w_MO_writers_0, c_ic, c_lc, c_nul, c_il, c_ll, c_al, c_is, c_ls, c_as, c_inc, c_b2, c_b2n, c_b1, c_d2, c_d2n, c_dsh, c_i2l, c_l2i, c_lcm, c_dup, c_dup2, c_pop, c_j1, c_j2, c_jn, c_sw0, c_sw, c_gI, c_gL, c_gR, c_gS, c_pI, c_pZ, c_pL, c_pR, c_iald, c_ialg, c_iast, c_iasg, c_bald, c_bast, c_lald, c_last, c_aald, c_aals, c_aast, c_alen, c_bnd, c_str, c_bndl, c_bnln, c_sval, c_scod, c_sbal, c_sbln, c_fmt, c_stop, c_iret, c_zret, c_nret, c_aret, c_vret, c_lret, c_cpy, c_callV, c_callS, tkA, lget, lput, lkill, jpush, vsz, jcat, lins, lent, List.length_cons, List.length_nil, List.replicate, List.append_nil, List.cons_append, List.nil_append, reduceIte, Nat.reduceAdd, Nat.reduceSub, Nat.reduceEqDiff, true_and, and_true, Nat.reduceLeDiff, Nat.lt_irrefl, Nat.succ_ne_self, forall_const, ne_eq, not_true_eq_false, not_false_eq_true, false_implies, implies_true, true_implies, true_or, or_true, or_false, false_or, eq_self, Int.reduceEq, Int.reduceLT, Int.reduceLE, Int.reduceNeg, Int.reduceToNat, Int.reduceAdd, Int.reduceSub, Int.reduceMul, Int.reduceNe, and_self]
  exact key K 0 none none (by omega)
theorem ok_MO_lies {ru G : Nat → Int} (hr : σ.1 69 0 = W) (hg : σ.1 66 0 = G) (hG : RW K F ru G) (hW : WW K Y W) (hP : PF F W) (h : Φ (some (.inl (sumF (lieV G W) (W 19).toNat))) σ) : Ct (d + 1) M_MO_lies [rf 10 0] σ Φ := by
  refine i_MO_lies (Nat.le_add_right 1 2) (fun At h4 => ?_)
  have rF8 := hG.2.1.2
  have w19 := hW.2.2.2.2.2.1
  subst hr
  subst hg
  have key : ∀ (m i : Nat), i + m = (σ.1 69 0 19).toNat → At 4 [some (rf 10 0), some (.inl (sumF (lieV (σ.1 66 0) (σ.1 69 0)) i)), some (.inl i)] [] σ := by
    intro m
    induction m with
    | zero =>
      intro i hi
      refine h4 _ _ _ ?_
      simp only [w_MO_lies_56, w_MO_lies_4, w_MO_lies_0, c_ic, c_lc, c_nul, c_il, c_ll, c_al, c_is, c_ls, c_as, c_inc, c_b2, c_b2n, c_b1, c_d2, c_d2n, c_dsh, c_i2l, c_l2i, c_lcm, c_dup, c_dup2, c_pop, c_j1, c_j2, c_jn, c_sw0, c_sw, c_gI, c_gL, c_gR, c_gS, c_pI, c_pZ, c_pL, c_pR, c_iald, c_ialg, c_iast, c_iasg, c_bald, c_bast, c_lald, c_last, c_aald, c_aals, c_aast, c_alen, c_bnd, c_str, c_bndl, c_bnln, c_sval, c_scod, c_sbal, c_sbln, c_fmt, c_stop, c_iret, c_zret, c_nret, c_aret, c_vret, c_lret, c_cpy, c_callV, c_callS, tkA, lget, lput, lkill, jpush, vsz, jcat, lins, lent, List.length_cons, List.length_nil, List.replicate, List.append_nil, List.cons_append, List.nil_append, reduceIte, Nat.reduceAdd, Nat.reduceSub, Nat.reduceEqDiff, true_and, and_true, Nat.reduceLeDiff, Nat.lt_irrefl, Nat.succ_ne_self, forall_const, ne_eq, not_true_eq_false, not_false_eq_true, false_implies, implies_true, true_implies, true_or, or_true, or_false, false_or, eq_self, Int.reduceEq, Int.reduceLT, Int.reduceLE, Int.reduceNeg, Int.reduceToNat, Int.reduceAdd, Int.reduceSub, Int.reduceMul, Int.reduceNe, and_self, jln69]
      refine ⟨by decide, by decide, fun _ => ?_, fun z => absurd z (by omega)⟩
      rw [show i = (σ.1 69 0 19).toNat by omega]
      exact h
    | succ m ih =>
      intro i hi
      refine h4 _ _ _ ?_
      have b1 := sumF_in (v := lieV (σ.1 66 0) (σ.1 69 0)) (a := -20) (b := 29) (by decide) (by decide) i (fun k hk => lieV_in hG hW hP (by omega))
      have b2 := lieV_in hG hW hP (i := i) (by omega)
      obtain ⟨p0, p1, p2⟩ := hW.2.2.2.2.2.2.1 i (by omega)
      have pf := hP i (by omega)
      obtain ⟨f, hf⟩ := Int.eq_ofNat_of_zero_le p0.1
      have e : sumF (lieV (σ.1 66 0) (σ.1 69 0)) (i + 1) = sumF (lieV (σ.1 66 0) (σ.1 69 0)) i + lieV (σ.1 66 0) (σ.1 69 0) i := rfl
      have el : lieV (σ.1 66 0) (σ.1 69 0) i = σ.1 69 0 (22 + 3 * i) - σ.1 66 0 (4 * f + 3) := by unfold lieV; rw [hf, Int.toNat_natCast]
      have := ih (i + 1) (by omega)
      rw [e, el] at this
      rw [el] at b2
      have g3 := (hG.at (f := f) (by omega)).2.2.2.2
      have e1 : wr (22 + wr (3 * (i : Int))) = ((22 + 3 * i : Nat) : Int) := by simp (disch := omega) only [wr_id]; omega
      have e2 : wr (20 + wr (3 * (i : Int))) = ((20 + 3 * i : Nat) : Int) := by simp (disch := omega) only [wr_id]; omega
      have e3 : wr (wr (4 * (f : Int)) + 3) = ((4 * f + 3 : Nat) : Int) := by simp (disch := omega) only [wr_id]; omega
      simp only [w_MO_lies_56, w_MO_lies_4, w_MO_lies_0, c_ic, c_lc, c_nul, c_il, c_ll, c_al, c_is, c_ls, c_as, c_inc, c_b2, c_b2n, c_b1, c_d2, c_d2n, c_dsh, c_i2l, c_l2i, c_lcm, c_dup, c_dup2, c_pop, c_j1, c_j2, c_jn, c_sw0, c_sw, c_gI, c_gL, c_gR, c_gS, c_pI, c_pZ, c_pL, c_pR, c_iald, c_ialg, c_iast, c_iasg, c_bald, c_bast, c_lald, c_last, c_aald, c_aals, c_aast, c_alen, c_bnd, c_str, c_bndl, c_bnln, c_sval, c_scod, c_sbal, c_sbln, c_fmt, c_stop, c_iret, c_zret, c_nret, c_aret, c_vret, c_lret, c_cpy, c_callV, c_callS, tkA, lget, lput, lkill, jpush, vsz, jcat, lins, lent, List.length_cons, List.length_nil, List.replicate, List.append_nil, List.cons_append, List.nil_append, reduceIte, Nat.reduceAdd, Nat.reduceSub, Nat.reduceEqDiff, true_and, and_true, Nat.reduceLeDiff, Nat.lt_irrefl, Nat.succ_ne_self, forall_const, ne_eq, not_true_eq_false, not_false_eq_true, false_implies, implies_true, true_implies, true_or, or_true, or_false, false_or, eq_self, Int.reduceEq, Int.reduceLT, Int.reduceLE, Int.reduceNeg, Int.reduceToNat, Int.reduceAdd, Int.reduceSub, Int.reduceMul, Int.reduceNe, and_self, jln69, e1, e2, Int.toNat_natCast, hf, e3, inc_nat (show i ≤ 100000 by omega)]
      rw [wr_id (x := σ.1 69 0 (22 + 3 * i) - σ.1 66 0 (4 * f + 3)) (by omega) (by omega), wr_id (by omega) (by omega)]
      exact ⟨by decide, by decide, fun z => absurd z (by omega), fun _ => ⟨by decide, ⟨by omega, by omega⟩, by decide, ⟨by omega, by omega⟩, ⟨by omega, by omega⟩, this⟩⟩
  simp only [w_MO_lies_0, c_ic, c_lc, c_nul, c_il, c_ll, c_al, c_is, c_ls, c_as, c_inc, c_b2, c_b2n, c_b1, c_d2, c_d2n, c_dsh, c_i2l, c_l2i, c_lcm, c_dup, c_dup2, c_pop, c_j1, c_j2, c_jn, c_sw0, c_sw, c_gI, c_gL, c_gR, c_gS, c_pI, c_pZ, c_pL, c_pR, c_iald, c_ialg, c_iast, c_iasg, c_bald, c_bast, c_lald, c_last, c_aald, c_aals, c_aast, c_alen, c_bnd, c_str, c_bndl, c_bnln, c_sval, c_scod, c_sbal, c_sbln, c_fmt, c_stop, c_iret, c_zret, c_nret, c_aret, c_vret, c_lret, c_cpy, c_callV, c_callS, tkA, lget, lput, lkill, jpush, vsz, jcat, lins, lent, List.length_cons, List.length_nil, List.replicate, List.append_nil, List.cons_append, List.nil_append, reduceIte, Nat.reduceAdd, Nat.reduceSub, Nat.reduceEqDiff, true_and, and_true, Nat.reduceLeDiff, Nat.lt_irrefl, Nat.succ_ne_self, forall_const, ne_eq, not_true_eq_false, not_false_eq_true, false_implies, implies_true, true_implies, true_or, or_true, or_false, false_or, eq_self, Int.reduceEq, Int.reduceLT, Int.reduceLE, Int.reduceNeg, Int.reduceToNat, Int.reduceAdd, Int.reduceSub, Int.reduceMul, Int.reduceNe, and_self]
  exact key _ 0 (Nat.zero_add _)
theorem ok_MO_told0a (hr : σ.1 69 0 = W) (hW : WW K Y W) (h : Φ (some (.inl (orF (fun i => jshl 1 (W (20 + 3 * i))) (W 19).toNat))) σ) : Ct (d + 1) M_MO_told0 [rf 10 0, .inl 0] σ Φ := by
  refine i_MO_told0 (Nat.le_add_right 2 5) (fun At h4 h42 => ?_)
  have w19 := hW.2.2.2.2.2.1
  subst hr
  have key : ∀ (m i : Nat) (x y z : Option jV), i + m = (σ.1 69 0 19).toNat → At 4 [some (rf 10 0), some (.inl 0), some (.inl (orF (fun i => jshl 1 (σ.1 69 0 (20 + 3 * i))) i)), some (.inl i), x, y, z] [] σ := by
    intro m
    induction m with
    | zero =>
      intro i x y z hi
      refine h4 _ _ _ ?_
      simp only [w_MO_told0_4, w_MO_told0_144, c_ic, c_lc, c_nul, c_il, c_ll, c_al, c_is, c_ls, c_as, c_inc, c_b2, c_b2n, c_b1, c_d2, c_d2n, c_dsh, c_i2l, c_l2i, c_lcm, c_dup, c_dup2, c_pop, c_j1, c_j2, c_jn, c_sw0, c_sw, c_gI, c_gL, c_gR, c_gS, c_pI, c_pZ, c_pL, c_pR, c_iald, c_ialg, c_iast, c_iasg, c_bald, c_bast, c_lald, c_last, c_aald, c_aals, c_aast, c_alen, c_bnd, c_str, c_bndl, c_bnln, c_sval, c_scod, c_sbal, c_sbln, c_fmt, c_stop, c_iret, c_zret, c_nret, c_aret, c_vret, c_lret, c_cpy, c_callV, c_callS, tkA, lget, lput, lkill, jpush, vsz, jcat, lins, lent, List.length_cons, List.length_nil, List.replicate, List.append_nil, List.cons_append, List.nil_append, reduceIte, Nat.reduceAdd, Nat.reduceSub, Nat.reduceEqDiff, true_and, and_true, Nat.reduceLeDiff, Nat.lt_irrefl, Nat.succ_ne_self, forall_const, ne_eq, not_true_eq_false, not_false_eq_true, false_implies, implies_true, true_implies, true_or, or_true, or_false, false_or, eq_self, Int.reduceEq, Int.reduceLT, Int.reduceLE, Int.reduceNeg, Int.reduceToNat, Int.reduceAdd, Int.reduceSub, Int.reduceMul, Int.reduceNe, and_self, jln69]
      refine ⟨by decide, by decide, fun _ => ?_, fun z => absurd z (by omega)⟩
      rw [show i = (σ.1 69 0 19).toNat by omega]
      exact h
    | succ m ih =>
      intro i x y z hi
      refine h4 _ _ _ ?_
      have e : orF (fun i => jshl 1 (σ.1 69 0 (20 + 3 * i))) (i + 1) = jor (orF (fun i => jshl 1 (σ.1 69 0 (20 + 3 * i))) i) (jshl 1 (σ.1 69 0 (20 + 3 * i))) := rfl
      have := ih (i + 1) (some (.inl (20 + 3 * i : Nat))) (some (.inl 0)) z (by omega)
      rw [e] at this
      have e2 : wr (20 + wr (3 * (i : Int))) = ((20 + 3 * i : Nat) : Int) := by simp (disch := omega) only [wr_id]; omega
      simp only [w_MO_told0_4, w_MO_told0_39, c_ic, c_lc, c_nul, c_il, c_ll, c_al, c_is, c_ls, c_as, c_inc, c_b2, c_b2n, c_b1, c_d2, c_d2n, c_dsh, c_i2l, c_l2i, c_lcm, c_dup, c_dup2, c_pop, c_j1, c_j2, c_jn, c_sw0, c_sw, c_gI, c_gL, c_gR, c_gS, c_pI, c_pZ, c_pL, c_pR, c_iald, c_ialg, c_iast, c_iasg, c_bald, c_bast, c_lald, c_last, c_aald, c_aals, c_aast, c_alen, c_bnd, c_str, c_bndl, c_bnln, c_sval, c_scod, c_sbal, c_sbln, c_fmt, c_stop, c_iret, c_zret, c_nret, c_aret, c_vret, c_lret, c_cpy, c_callV, c_callS, tkA, lget, lput, lkill, jpush, vsz, jcat, lins, lent, List.length_cons, List.length_nil, List.replicate, List.append_nil, List.cons_append, List.nil_append, reduceIte, Nat.reduceAdd, Nat.reduceSub, Nat.reduceEqDiff, true_and, and_true, Nat.reduceLeDiff, Nat.lt_irrefl, Nat.succ_ne_self, forall_const, ne_eq, not_true_eq_false, not_false_eq_true, false_implies, implies_true, true_implies, true_or, or_true, or_false, false_or, eq_self, Int.reduceEq, Int.reduceLT, Int.reduceLE, Int.reduceNeg, Int.reduceToNat, Int.reduceAdd, Int.reduceSub, Int.reduceMul, Int.reduceNe, and_self, jln69, e2, Int.toNat_natCast]
      refine ⟨by decide, by decide, fun z => absurd z (by omega), fun _ => ⟨by decide, ⟨by omega, by omega⟩, ?_⟩⟩
      refine h42 _ _ _ ?_
      simp only [w_MO_told0_42, w_MO_told0_138, c_ic, c_lc, c_nul, c_il, c_ll, c_al, c_is, c_ls, c_as, c_inc, c_b2, c_b2n, c_b1, c_d2, c_d2n, c_dsh, c_i2l, c_l2i, c_lcm, c_dup, c_dup2, c_pop, c_j1, c_j2, c_jn, c_sw0, c_sw, c_gI, c_gL, c_gR, c_gS, c_pI, c_pZ, c_pL, c_pR, c_iald, c_ialg, c_iast, c_iasg, c_bald, c_bast, c_lald, c_last, c_aald, c_aals, c_aast, c_alen, c_bnd, c_str, c_bndl, c_bnln, c_sval, c_scod, c_sbal, c_sbln, c_fmt, c_stop, c_iret, c_zret, c_nret, c_aret, c_vret, c_lret, c_cpy, c_callV, c_callS, tkA, lget, lput, lkill, jpush, vsz, jcat, lins, lent, List.length_cons, List.length_nil, List.replicate, List.append_nil, List.cons_append, List.nil_append, reduceIte, Nat.reduceAdd, Nat.reduceSub, Nat.reduceEqDiff, true_and, and_true, Nat.reduceLeDiff, Nat.lt_irrefl, Nat.succ_ne_self, forall_const, ne_eq, not_true_eq_false, not_false_eq_true, false_implies, implies_true, true_implies, true_or, or_true, or_false, false_or, eq_self, Int.reduceEq, Int.reduceLT, Int.reduceLE, Int.reduceNeg, Int.reduceToNat, Int.reduceAdd, Int.reduceSub, Int.reduceMul, Int.reduceNe, and_self, jln69, inc_nat (show i ≤ 100000 by omega)]
      refine ⟨fun _ => this, fun _ => this⟩
  simp only [w_MO_told0_0, c_ic, c_lc, c_nul, c_il, c_ll, c_al, c_is, c_ls, c_as, c_inc, c_b2, c_b2n, c_b1, c_d2, c_d2n, c_dsh, c_i2l, c_l2i, c_lcm, c_dup, c_dup2, c_pop, c_j1, c_j2, c_jn, c_sw0, c_sw, c_gI, c_gL, c_gR, c_gS, c_pI, c_pZ, c_pL, c_pR, c_iald, c_ialg, c_iast, c_iasg, c_bald, c_bast, c_lald, c_last, c_aald, c_aals, c_aast, c_alen, c_bnd, c_str, c_bndl, c_bnln, c_sval, c_scod, c_sbal, c_sbln, c_fmt, c_stop, c_iret, c_zret, c_nret, c_aret, c_vret, c_lret, c_cpy, c_callV, c_callS, tkA, lget, lput, lkill, jpush, vsz, jcat, lins, lent, List.length_cons, List.length_nil, List.replicate, List.append_nil, List.cons_append, List.nil_append, reduceIte, Nat.reduceAdd, Nat.reduceSub, Nat.reduceEqDiff, true_and, and_true, Nat.reduceLeDiff, Nat.lt_irrefl, Nat.succ_ne_self, forall_const, ne_eq, not_true_eq_false, not_false_eq_true, false_implies, implies_true, true_implies, true_or, or_true, or_false, false_or, eq_self, Int.reduceEq, Int.reduceLT, Int.reduceLE, Int.reduceNeg, Int.reduceToNat, Int.reduceAdd, Int.reduceSub, Int.reduceMul, Int.reduceNe, and_self]
  exact key _ 0 none none none (Nat.zero_add _)
theorem ok_MO_told0b (hr : σ.1 69 0 = W) (hW : WW K Y W) (h : Φ (some (.inl (tlF W (W 19).toNat))) σ) : Ct (d + 1) M_MO_told0 [rf 10 0, .inl 1] σ Φ := by
  refine i_MO_told0 (Nat.le_add_right 2 5) (fun At h4 h42 => ?_)
  have w19 := hW.2.2.2.2.2.1
  subst hr
  have key : ∀ (m i : Nat) (x y z : Option jV), i + m = (σ.1 69 0 19).toNat → At 4 [some (rf 10 0), some (.inl 1), some (.inl (tlF (σ.1 69 0) i)), some (.inl i), x, y, z] [] σ := by
    intro m
    induction m with
    | zero =>
      intro i x y z hi
      refine h4 _ _ _ ?_
      simp only [w_MO_told0_4, w_MO_told0_144, c_ic, c_lc, c_nul, c_il, c_ll, c_al, c_is, c_ls, c_as, c_inc, c_b2, c_b2n, c_b1, c_d2, c_d2n, c_dsh, c_i2l, c_l2i, c_lcm, c_dup, c_dup2, c_pop, c_j1, c_j2, c_jn, c_sw0, c_sw, c_gI, c_gL, c_gR, c_gS, c_pI, c_pZ, c_pL, c_pR, c_iald, c_ialg, c_iast, c_iasg, c_bald, c_bast, c_lald, c_last, c_aald, c_aals, c_aast, c_alen, c_bnd, c_str, c_bndl, c_bnln, c_sval, c_scod, c_sbal, c_sbln, c_fmt, c_stop, c_iret, c_zret, c_nret, c_aret, c_vret, c_lret, c_cpy, c_callV, c_callS, tkA, lget, lput, lkill, jpush, vsz, jcat, lins, lent, List.length_cons, List.length_nil, List.replicate, List.append_nil, List.cons_append, List.nil_append, reduceIte, Nat.reduceAdd, Nat.reduceSub, Nat.reduceEqDiff, true_and, and_true, Nat.reduceLeDiff, Nat.lt_irrefl, Nat.succ_ne_self, forall_const, ne_eq, not_true_eq_false, not_false_eq_true, false_implies, implies_true, true_implies, true_or, or_true, or_false, false_or, eq_self, Int.reduceEq, Int.reduceLT, Int.reduceLE, Int.reduceNeg, Int.reduceToNat, Int.reduceAdd, Int.reduceSub, Int.reduceMul, Int.reduceNe, and_self, jln69]
      refine ⟨by decide, by decide, fun _ => ?_, fun z => absurd z (by omega)⟩
      rw [show i = (σ.1 69 0 19).toNat by omega]
      exact h
    | succ m ih =>
      intro i x y z hi
      have e2 : ∀ q : Nat, q ≤ 30 → wr (20 + wr (3 * (q : Int))) = ((20 + 3 * q : Nat) : Int) := by intro q hq; simp (disch := omega) only [wr_id]; omega
      have e3 : ∀ q : Nat, q ≤ 30 → wr (((20 + 3 * q : Nat) : Int) + 1) = ((21 + 3 * q : Nat) : Int) := by intro q hq; simp (disch := omega) only [wr_id]; omega
      have e4 : ∀ q : Nat, q ≤ 30 → wr (((20 + 3 * q : Nat) : Int) + 2) = ((22 + 3 * q : Nat) : Int) := by intro q hq; simp (disch := omega) only [wr_id]; omega
      have inner : ∀ (m2 q : Nat) (z : Option jV), q + m2 = i → At 42 [some (rf 10 0), some (.inl 1), some (.inl (tlI (σ.1 69 0) i (tlF (σ.1 69 0) i) q)), some (.inl i), some (.inl (20 + 3 * i : Nat)), some (.inl q), z] [] σ := by
        intro m2
        induction m2 with
        | zero =>
          intro q z hq
          refine h42 _ _ _ ?_
          simp only [w_MO_told0_42, w_MO_told0_138, c_ic, c_lc, c_nul, c_il, c_ll, c_al, c_is, c_ls, c_as, c_inc, c_b2, c_b2n, c_b1, c_d2, c_d2n, c_dsh, c_i2l, c_l2i, c_lcm, c_dup, c_dup2, c_pop, c_j1, c_j2, c_jn, c_sw0, c_sw, c_gI, c_gL, c_gR, c_gS, c_pI, c_pZ, c_pL, c_pR, c_iald, c_ialg, c_iast, c_iasg, c_bald, c_bast, c_lald, c_last, c_aald, c_aals, c_aast, c_alen, c_bnd, c_str, c_bndl, c_bnln, c_sval, c_scod, c_sbal, c_sbln, c_fmt, c_stop, c_iret, c_zret, c_nret, c_aret, c_vret, c_lret, c_cpy, c_callV, c_callS, tkA, lget, lput, lkill, jpush, vsz, jcat, lins, lent, List.length_cons, List.length_nil, List.replicate, List.append_nil, List.cons_append, List.nil_append, reduceIte, Nat.reduceAdd, Nat.reduceSub, Nat.reduceEqDiff, true_and, and_true, Nat.reduceLeDiff, Nat.lt_irrefl, Nat.succ_ne_self, forall_const, ne_eq, not_true_eq_false, not_false_eq_true, false_implies, implies_true, true_implies, true_or, or_true, or_false, false_or, eq_self, Int.reduceEq, Int.reduceLT, Int.reduceLE, Int.reduceNeg, Int.reduceToNat, Int.reduceAdd, Int.reduceSub, Int.reduceMul, Int.reduceNe, and_self, inc_nat (show i ≤ 100000 by omega)]
          refine ⟨fun _ => ?_, fun z => absurd z (by omega)⟩
          have := ih (i + 1) (some (.inl (20 + 3 * i : Nat))) (some (.inl q)) z (by omega)
          rw [show q = i by omega] at this ⊢
          exact this
        | succ m2 ih2 =>
          intro q z hq
          refine h42 _ _ _ ?_
          have t := ih2 (q + 1) (some (.inl (20 + 3 * q : Nat))) (by omega)
          unfold tlI at t
          simp only [w_MO_told0_42, w_MO_told0_132, c_ic, c_lc, c_nul, c_il, c_ll, c_al, c_is, c_ls, c_as, c_inc, c_b2, c_b2n, c_b1, c_d2, c_d2n, c_dsh, c_i2l, c_l2i, c_lcm, c_dup, c_dup2, c_pop, c_j1, c_j2, c_jn, c_sw0, c_sw, c_gI, c_gL, c_gR, c_gS, c_pI, c_pZ, c_pL, c_pR, c_iald, c_ialg, c_iast, c_iasg, c_bald, c_bast, c_lald, c_last, c_aald, c_aals, c_aast, c_alen, c_bnd, c_str, c_bndl, c_bnln, c_sval, c_scod, c_sbal, c_sbln, c_fmt, c_stop, c_iret, c_zret, c_nret, c_aret, c_vret, c_lret, c_cpy, c_callV, c_callS, tkA, lget, lput, lkill, jpush, vsz, jcat, lins, lent, List.length_cons, List.length_nil, List.replicate, List.append_nil, List.cons_append, List.nil_append, reduceIte, Nat.reduceAdd, Nat.reduceSub, Nat.reduceEqDiff, true_and, and_true, Nat.reduceLeDiff, Nat.lt_irrefl, Nat.succ_ne_self, forall_const, ne_eq, not_true_eq_false, not_false_eq_true, false_implies, implies_true, true_implies, true_or, or_true, or_false, false_or, eq_self, Int.reduceEq, Int.reduceLT, Int.reduceLE, Int.reduceNeg, Int.reduceToNat, Int.reduceAdd, Int.reduceSub, Int.reduceMul, Int.reduceNe, and_self, jln69, e2 q (by omega), e3 q (by omega), e4 q (by omega), e3 i (by omega), e4 i (by omega), Int.toNat_natCast, inc_nat (show q ≤ 100000 by omega)]
          refine ⟨fun z => absurd z (by omega), fun _ => ⟨by decide, ⟨by omega, by omega⟩, by decide, ⟨by omega, by omega⟩, fun z => ?_, fun z => ⟨by decide, ⟨by omega, by omega⟩, by decide, ⟨by omega, by omega⟩, fun z2 => ?_, fun z2 => ⟨by decide, ⟨by omega, by omega⟩, by decide, ⟨by omega, by omega⟩, fun z3 => ?_, fun z3 => ⟨by decide, ⟨by omega, by omega⟩, ?_⟩⟩⟩⟩⟩
          · rw [if_neg (fun w => z w.1)] at t
            exact t
          · rw [if_neg (fun w => w.2.1 z2)] at t
            exact t
          · rw [if_neg (fun w => z3 w.2.2)] at t
            exact t
          · rw [if_pos ⟨Classical.not_not.mp z, z2, Classical.not_not.mp z3⟩] at t
            exact t
      refine h4 _ _ _ ?_
      simp only [w_MO_told0_4, w_MO_told0_39, c_ic, c_lc, c_nul, c_il, c_ll, c_al, c_is, c_ls, c_as, c_inc, c_b2, c_b2n, c_b1, c_d2, c_d2n, c_dsh, c_i2l, c_l2i, c_lcm, c_dup, c_dup2, c_pop, c_j1, c_j2, c_jn, c_sw0, c_sw, c_gI, c_gL, c_gR, c_gS, c_pI, c_pZ, c_pL, c_pR, c_iald, c_ialg, c_iast, c_iasg, c_bald, c_bast, c_lald, c_last, c_aald, c_aals, c_aast, c_alen, c_bnd, c_str, c_bndl, c_bnln, c_sval, c_scod, c_sbal, c_sbln, c_fmt, c_stop, c_iret, c_zret, c_nret, c_aret, c_vret, c_lret, c_cpy, c_callV, c_callS, tkA, lget, lput, lkill, jpush, vsz, jcat, lins, lent, List.length_cons, List.length_nil, List.replicate, List.append_nil, List.cons_append, List.nil_append, reduceIte, Nat.reduceAdd, Nat.reduceSub, Nat.reduceEqDiff, true_and, and_true, Nat.reduceLeDiff, Nat.lt_irrefl, Nat.succ_ne_self, forall_const, ne_eq, not_true_eq_false, not_false_eq_true, false_implies, implies_true, true_implies, true_or, or_true, or_false, false_or, eq_self, Int.reduceEq, Int.reduceLT, Int.reduceLE, Int.reduceNeg, Int.reduceToNat, Int.reduceAdd, Int.reduceSub, Int.reduceMul, Int.reduceNe, and_self, jln69, e2 i (by omega), Int.toNat_natCast]
      exact ⟨by decide, by decide, fun z => absurd z (by omega), fun _ => inner i 0 z (by omega)⟩
  simp only [w_MO_told0_0, c_ic, c_lc, c_nul, c_il, c_ll, c_al, c_is, c_ls, c_as, c_inc, c_b2, c_b2n, c_b1, c_d2, c_d2n, c_dsh, c_i2l, c_l2i, c_lcm, c_dup, c_dup2, c_pop, c_j1, c_j2, c_jn, c_sw0, c_sw, c_gI, c_gL, c_gR, c_gS, c_pI, c_pZ, c_pL, c_pR, c_iald, c_ialg, c_iast, c_iasg, c_bald, c_bast, c_lald, c_last, c_aald, c_aals, c_aast, c_alen, c_bnd, c_str, c_bndl, c_bnln, c_sval, c_scod, c_sbal, c_sbln, c_fmt, c_stop, c_iret, c_zret, c_nret, c_aret, c_vret, c_lret, c_cpy, c_callV, c_callS, tkA, lget, lput, lkill, jpush, vsz, jcat, lins, lent, List.length_cons, List.length_nil, List.replicate, List.append_nil, List.cons_append, List.nil_append, reduceIte, Nat.reduceAdd, Nat.reduceSub, Nat.reduceEqDiff, true_and, and_true, Nat.reduceLeDiff, Nat.lt_irrefl, Nat.succ_ne_self, forall_const, ne_eq, not_true_eq_false, not_false_eq_true, false_implies, implies_true, true_implies, true_or, or_true, or_false, false_or, eq_self, Int.reduceEq, Int.reduceLT, Int.reduceLE, Int.reduceNeg, Int.reduceToNat, Int.reduceAdd, Int.reduceSub, Int.reduceMul, Int.reduceNe, and_self]
  exact key _ 0 none none none (Nat.zero_add _)
end ALLS
