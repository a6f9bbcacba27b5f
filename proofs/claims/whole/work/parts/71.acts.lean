/-! ===== 71 World's beginning; Acts ===== -/
theorem ok_AR_fill {σ : jM} {Φ : jPh} {d k j : Nat} {v : Int} (hk : eTc k = 0 ∧ eCl k = 0 ∧ 11 ≤ k ∧ k < 90) (hl : jln k j < 1000) (h : Φ none (sA σ k j (fun o => if o < jln k j then v else σ.1 k j o))) : Ct (d + 1) M_AR_fill [rf k j, .inl v] σ Φ := by
  refine i_AR_fill (Nat.le_add_right 2 2) (fun At h5 => ?_)
  have key : ∀ (m i : Nat), i + m = jln k j → At 5 [some (rf k j), some (.inl v), some (.inl i), some (.inl (jln k j))] [] (sA σ k j (fun o => if o < i then v else σ.1 k j o)) := by
    intro m
    induction m with
    | zero =>
      intro i hi
      refine h5 _ _ _ ?_
      simp only [w_AR_fill_20, w_AR_fill_5, w_AR_fill_0, c_ic, c_lc, c_nul, c_il, c_ll, c_al, c_is, c_ls, c_as, c_inc, c_b2, c_b2n, c_b1, c_d2, c_d2n, c_dsh, c_i2l, c_l2i, c_lcm, c_dup, c_dup2, c_pop, c_j1, c_j2, c_jn, c_sw0, c_sw, c_gI, c_gL, c_gR, c_gS, c_pI, c_pZ, c_pL, c_pR, c_iald, c_ialg, c_iast, c_iasg, c_bald, c_bast, c_lald, c_last, c_aald, c_aals, c_aast, c_alen, c_bnd, c_str, c_bndl, c_bnln, c_sval, c_scod, c_sbal, c_sbln, c_fmt, c_stop, c_iret, c_zret, c_nret, c_aret, c_vret, c_lret, c_cpy, c_callV, c_callS, tkA, lget, lput, lkill, jpush, vsz, jcat, lins, lent, List.length_cons, List.length_nil, List.replicate, List.append_nil, List.cons_append, List.nil_append, reduceIte, Nat.reduceAdd, Nat.reduceSub, Nat.reduceEqDiff, true_and, and_true, Nat.reduceLeDiff, Nat.lt_irrefl, Nat.succ_ne_self, forall_const, ne_eq, not_true_eq_false, not_false_eq_true, false_implies, implies_true, true_implies, true_or, or_true, or_false, false_or, eq_self, Int.reduceEq, Int.reduceLT, Int.reduceLE, Int.reduceNeg, Int.reduceToNat, Int.reduceAdd, Int.reduceSub, Int.reduceMul, Int.reduceNe, and_self]
      refine ⟨fun _ => ?_, fun z => absurd z (by omega)⟩
      rw [show i = jln k j by omega]
      exact h
    | succ m ih =>
      intro i hi
      refine h5 _ _ _ ?_
      simp only [w_AR_fill_20, w_AR_fill_5, w_AR_fill_0, c_ic, c_lc, c_nul, c_il, c_ll, c_al, c_is, c_ls, c_as, c_inc, c_b2, c_b2n, c_b1, c_d2, c_d2n, c_dsh, c_i2l, c_l2i, c_lcm, c_dup, c_dup2, c_pop, c_j1, c_j2, c_jn, c_sw0, c_sw, c_gI, c_gL, c_gR, c_gS, c_pI, c_pZ, c_pL, c_pR, c_iald, c_ialg, c_iast, c_iasg, c_bald, c_bast, c_lald, c_last, c_aald, c_aals, c_aast, c_alen, c_bnd, c_str, c_bndl, c_bnln, c_sval, c_scod, c_sbal, c_sbln, c_fmt, c_stop, c_iret, c_zret, c_nret, c_aret, c_vret, c_lret, c_cpy, c_callV, c_callS, tkA, lget, lput, lkill, jpush, vsz, jcat, lins, lent, List.length_cons, List.length_nil, List.replicate, List.append_nil, List.cons_append, List.nil_append, reduceIte, Nat.reduceAdd, Nat.reduceSub, Nat.reduceEqDiff, true_and, and_true, Nat.reduceLeDiff, Nat.lt_irrefl, Nat.succ_ne_self, forall_const, ne_eq, not_true_eq_false, not_false_eq_true, false_implies, implies_true, true_implies, true_or, or_true, or_false, false_or, eq_self, Int.reduceEq, Int.reduceLT, Int.reduceLE, Int.reduceNeg, Int.reduceToNat, Int.reduceAdd, Int.reduceSub, Int.reduceMul, Int.reduceNe, and_self, Int.toNat_natCast, sA_sI, inc_nat (show i ≤ 100000 by omega)]
      refine ⟨fun z => absurd z (by omega), fun _ => ⟨hk, ⟨by omega, by omega⟩, ?_⟩⟩
      refine Eq.mp ?_ (ih (i + 1) (by omega))
      congr 2
      funext p
      simp only [up]
      repeat' split
      all_goals first | rfl | omega
  simp only [w_AR_fill_0, c_ic, c_lc, c_nul, c_il, c_ll, c_al, c_is, c_ls, c_as, c_inc, c_b2, c_b2n, c_b1, c_d2, c_d2n, c_dsh, c_i2l, c_l2i, c_lcm, c_dup, c_dup2, c_pop, c_j1, c_j2, c_jn, c_sw0, c_sw, c_gI, c_gL, c_gR, c_gS, c_pI, c_pZ, c_pL, c_pR, c_iald, c_ialg, c_iast, c_iasg, c_bald, c_bast, c_lald, c_last, c_aald, c_aals, c_aast, c_alen, c_bnd, c_str, c_bndl, c_bnln, c_sval, c_scod, c_sbal, c_sbln, c_fmt, c_stop, c_iret, c_zret, c_nret, c_aret, c_vret, c_lret, c_cpy, c_callV, c_callS, tkA, lget, lput, lkill, jpush, vsz, jcat, lins, lent, List.length_cons, List.length_nil, List.replicate, List.append_nil, List.cons_append, List.nil_append, reduceIte, Nat.reduceAdd, Nat.reduceSub, Nat.reduceEqDiff, true_and, and_true, Nat.reduceLeDiff, Nat.lt_irrefl, Nat.succ_ne_self, forall_const, ne_eq, not_true_eq_false, not_false_eq_true, false_implies, implies_true, true_implies, true_or, or_true, or_false, false_or, eq_self, Int.reduceEq, Int.reduceLT, Int.reduceLE, Int.reduceNeg, Int.reduceToNat, Int.reduceAdd, Int.reduceSub, Int.reduceMul, Int.reduceNe, and_self]
  refine ⟨⟨hk.2.2.1, hk.2.2.2, by omega⟩, ?_⟩
  have := key _ 0 (Nat.zero_add _)
  refine Eq.mp ?_ this
  congr 1
  refine Eq.trans ?_ (sA_self σ k j)
  congr 1
/-- the world at a realm's beginning: kr the kingdoms' might, bias, style; c the coins -/
def W0 (K : Nat) (kr : Nat → Int) (c : Int) : Nat → Int := fun p => if p < 4 * K ∧ p % 4 < 3 then kr (3 * (p / 4) + p % 4) else if p = 17 then c else 0
theorem W0_z {K : Nat} {kr : Nat → Int} {c : Int} {p : Nat} (hK : K ≤ 4) (h : 18 ≤ p ∨ p = 16) : W0 K kr c p = 0 := by
  unfold W0
  rw [if_neg (by omega), if_neg (by omega)]
theorem pgs_0 {W : Nat → Int} {k : Int} (h : W 19 = 0) : pgs W k = 0 := by
  unfold pgs
  rw [h]
  rfl
theorem bt_0 (k : Nat) : bt 0 k = 0 := by unfold bt; simp
theorem ok_WO_begin {σ : jM} {Φ : jPh} {d a r K : Nat} {kr : Nat → Int} {c : Int} (hK : K ≤ 4) (hk : ∀ k, k < K → σ.1 26 r k = kr (3 * k) ∧ σ.1 27 r k = kr (3 * k + 1) ∧ σ.1 28 r k = kr (3 * k + 2)) (hc : σ.1 5 r 12 = c) (h : ∀ τ, Fr (SW a) σ τ → CW τ a K (W0 K kr c) → Φ none τ) : Ct (d + 2) M_WO_begin [rf 8 a, rf 5 r] σ Φ := by
  refine i_WO_begin (Nat.le_refl 2) ?_
  simp only [w_WO_begin_0, c_ic, c_lc, c_nul, c_il, c_ll, c_al, c_is, c_ls, c_as, c_inc, c_b2, c_b2n, c_b1, c_d2, c_d2n, c_dsh, c_i2l, c_l2i, c_lcm, c_dup, c_dup2, c_pop, c_j1, c_j2, c_jn, c_sw0, c_sw, c_gI, c_gL, c_gR, c_gS, c_pI, c_pZ, c_pL, c_pR, c_iald, c_ialg, c_iast, c_iasg, c_bald, c_bast, c_lald, c_last, c_aald, c_aals, c_aast, c_alen, c_bnd, c_str, c_bndl, c_bnln, c_sval, c_scod, c_sbal, c_sbln, c_fmt, c_stop, c_iret, c_zret, c_nret, c_aret, c_vret, c_lret, c_cpy, c_callV, c_callS, tkA, lget, lput, lkill, jpush, vsz, jcat, lins, lent, List.length_cons, List.length_nil, List.replicate, List.append_nil, List.cons_append, List.nil_append, reduceIte, Nat.reduceAdd, Nat.reduceSub, Nat.reduceEqDiff, true_and, and_true, Nat.reduceLeDiff, Nat.lt_irrefl, Nat.succ_ne_self, forall_const, ne_eq, not_true_eq_false, not_false_eq_true, false_implies, implies_true, true_implies, true_or, or_true, or_false, false_or, eq_self, Int.reduceEq, Int.reduceLT, Int.reduceLE, Int.reduceNeg, Int.reduceToNat, Int.reduceAdd, Int.reduceSub, Int.reduceMul, Int.reduceNe, and_self, jln]
  refine ⟨by decide, by decide, by decide, by decide, by decide, by decide, by decide, by decide, by decide, ?_⟩
  refine ok_AR_fill (by decide) (show 4 < 1000 by decide) ?_
  simp only [c_ic, c_lc, c_nul, c_il, c_ll, c_al, c_is, c_ls, c_as, c_inc, c_b2, c_b2n, c_b1, c_d2, c_d2n, c_dsh, c_i2l, c_l2i, c_lcm, c_dup, c_dup2, c_pop, c_j1, c_j2, c_jn, c_sw0, c_sw, c_gI, c_gL, c_gR, c_gS, c_pI, c_pZ, c_pL, c_pR, c_iald, c_ialg, c_iast, c_iasg, c_bald, c_bast, c_lald, c_last, c_aald, c_aals, c_aast, c_alen, c_bnd, c_str, c_bndl, c_bnln, c_sval, c_scod, c_sbal, c_sbln, c_fmt, c_stop, c_iret, c_zret, c_nret, c_aret, c_vret, c_lret, c_cpy, c_callV, c_callS, tkA, lget, lput, lkill, jpush, vsz, jcat, lins, lent, List.length_cons, List.length_nil, List.replicate, List.append_nil, List.cons_append, List.nil_append, reduceIte, Nat.reduceAdd, Nat.reduceSub, Nat.reduceEqDiff, true_and, and_true, Nat.reduceLeDiff, Nat.lt_irrefl, Nat.succ_ne_self, forall_const, ne_eq, not_true_eq_false, not_false_eq_true, false_implies, implies_true, true_implies, true_or, or_true, or_false, false_or, eq_self, Int.reduceEq, Int.reduceLT, Int.reduceLE, Int.reduceNeg, Int.reduceToNat, Int.reduceAdd, Int.reduceSub, Int.reduceMul, Int.reduceNe, and_self]
  refine ok_AR_fill (by decide) (show 4 < 1000 by decide) ?_
  simp only [c_ic, c_lc, c_nul, c_il, c_ll, c_al, c_is, c_ls, c_as, c_inc, c_b2, c_b2n, c_b1, c_d2, c_d2n, c_dsh, c_i2l, c_l2i, c_lcm, c_dup, c_dup2, c_pop, c_j1, c_j2, c_jn, c_sw0, c_sw, c_gI, c_gL, c_gR, c_gS, c_pI, c_pZ, c_pL, c_pR, c_iald, c_ialg, c_iast, c_iasg, c_bald, c_bast, c_lald, c_last, c_aald, c_aals, c_aast, c_alen, c_bnd, c_str, c_bndl, c_bnln, c_sval, c_scod, c_sbal, c_sbln, c_fmt, c_stop, c_iret, c_zret, c_nret, c_aret, c_vret, c_lret, c_cpy, c_callV, c_callS, tkA, lget, lput, lkill, jpush, vsz, jcat, lins, lent, List.length_cons, List.length_nil, List.replicate, List.append_nil, List.cons_append, List.nil_append, reduceIte, Nat.reduceAdd, Nat.reduceSub, Nat.reduceEqDiff, true_and, and_true, Nat.reduceLeDiff, Nat.lt_irrefl, Nat.succ_ne_self, forall_const, ne_eq, not_true_eq_false, not_false_eq_true, false_implies, implies_true, true_implies, true_or, or_true, or_false, false_or, eq_self, Int.reduceEq, Int.reduceLT, Int.reduceLE, Int.reduceNeg, Int.reduceToNat, Int.reduceAdd, Int.reduceSub, Int.reduceMul, Int.reduceNe, and_self]
  refine ok_AR_fill (by decide) (show 4 < 1000 by decide) ?_
  simp only [c_ic, c_lc, c_nul, c_il, c_ll, c_al, c_is, c_ls, c_as, c_inc, c_b2, c_b2n, c_b1, c_d2, c_d2n, c_dsh, c_i2l, c_l2i, c_lcm, c_dup, c_dup2, c_pop, c_j1, c_j2, c_jn, c_sw0, c_sw, c_gI, c_gL, c_gR, c_gS, c_pI, c_pZ, c_pL, c_pR, c_iald, c_ialg, c_iast, c_iasg, c_bald, c_bast, c_lald, c_last, c_aald, c_aals, c_aast, c_alen, c_bnd, c_str, c_bndl, c_bnln, c_sval, c_scod, c_sbal, c_sbln, c_fmt, c_stop, c_iret, c_zret, c_nret, c_aret, c_vret, c_lret, c_cpy, c_callV, c_callS, tkA, lget, lput, lkill, jpush, vsz, jcat, lins, lent, List.length_cons, List.length_nil, List.replicate, List.append_nil, List.cons_append, List.nil_append, reduceIte, Nat.reduceAdd, Nat.reduceSub, Nat.reduceEqDiff, true_and, and_true, Nat.reduceLeDiff, Nat.lt_irrefl, Nat.succ_ne_self, forall_const, ne_eq, not_true_eq_false, not_false_eq_true, false_implies, implies_true, true_implies, true_or, or_true, or_false, false_or, eq_self, Int.reduceEq, Int.reduceLT, Int.reduceLE, Int.reduceNeg, Int.reduceToNat, Int.reduceAdd, Int.reduceSub, Int.reduceMul, Int.reduceNe, and_self, jln]
  refine h _ ?_ ?_
  · refine (((((((((( Fr.rf.sA ?_).sA ?_).sA ?_).sA ?_).sA ?_).sA ?_).sI ?_).sI ?_).sI ?_).sI ?_) <;> first | exact SWi (by decide) | exact fun _ => SWi (by decide)
  · refine ⟨fun k hk' => ?_, fun k hk' => ?_, ?_, fun i hi => ?_, fun i hi => ?_⟩
    · have := hk k hk'
      have e0 : W0 K kr c (4 * k) = kr (3 * k) := by unfold W0; rw [if_pos (by omega), show 3 * (4 * k / 4) + 4 * k % 4 = 3 * k by omega]
      have e1 : W0 K kr c (4 * k + 1) = kr (3 * k + 1) := by unfold W0; rw [if_pos (by omega), show 3 * ((4 * k + 1) / 4) + (4 * k + 1) % 4 = 3 * k + 1 by omega]
      have e2 : W0 K kr c (4 * k + 2) = kr (3 * k + 2) := by unfold W0; rw [if_pos (by omega), show 3 * ((4 * k + 2) / 4) + (4 * k + 2) % 4 = 3 * k + 2 by omega]
      rw [e0, e1, e2]
      simp only [g_sI, g_sA, cpyF, Nat.reduceEqDiff, false_and, if_false, true_and, and_true, if_true, and_self, Int.reduceToNat, Nat.zero_le, Nat.zero_add, Nat.sub_zero]
      rw [if_pos (by omega), if_pos (by omega), if_pos (by omega)]
      exact this
    · have e3 : W0 K kr c (4 * k + 3) = 0 := by unfold W0; rw [if_neg (by omega), if_neg (by omega)]
      rw [e3, W0_z hK (Or.inr rfl), pgs_0 (W0_z hK (Or.inl (by decide))), bt_0]
      simp only [g_sI, g_sA, Nat.reduceEqDiff, false_and, if_false, and_self, if_true]
      simp only [if_pos hk', and_self]
    · have e17 : W0 K kr c 17 = c := by unfold W0; rw [if_neg (by omega), if_pos rfl]
      rw [W0_z hK (p := 19) (Or.inl (by decide)), W0_z hK (p := 110) (Or.inl (by decide)), W0_z hK (p := 18) (Or.inl (by decide)), e17]
      simp only [g_sI, g_sA, Nat.reduceEqDiff, false_and, and_false, if_false, and_self, if_true]
      exact ⟨trivial, trivial, hc, trivial⟩
    · rw [W0_z hK (Or.inl (by decide))] at hi; omega
    · rw [W0_z hK (Or.inl (by decide))] at hi; omega
/-- the kept worlds, the oldest first -/
def AK (σ : jM) (K : Nat) (U : List (Nat → Int)) : Prop := U.length ≤ 40 ∧ σ.1 0 0 2 = U.length ∧ ∃ nx : Nat, nx < 40 ∧ σ.1 0 0 1 = nx ∧ ∀ i, i < U.length → CW σ (3 + (nx + 40 - U.length + i) % 40) K (U.getD i (fun _ => 0))
def keepU (U : List (Nat → Int)) (W : Nat → Int) : List (Nat → Int) := (if U.length = 40 then U.tail else U) ++ [W]
def SAk : jS := fun k j o => (k = 0 ∧ j = 0) ∨ (3 ≤ j ∧ j < 43 ∧ (k = 8 ∨ (41 ≤ k ∧ k ≤ 48)))
theorem keepU_len {U : List (Nat → Int)} {W : Nat → Int} (h : U.length ≤ 40) : (keepU U W).length = min 40 (U.length + 1) := by
  unfold keepU
  split
  · simp only [List.length_append, List.length_tail, List.length_cons, List.length_nil]; omega
  · simp only [List.length_append, List.length_cons, List.length_nil]; omega
theorem ok_AC_keep {σ : jM} {Φ : jPh} {d K : Nat} {U : List (Nat → Int)} {W : Nat → Int} {Y : Int} (hK : K ≤ 4) (hA : AK σ K U) (hC : CW σ 0 K W) (hW : WW K Y W) (h : ∀ τ, Fr SAk σ τ → AK τ K (keepU U W) → Φ none τ) : Ct (d + 2) M_AC_keep [rf 0 0, rf 8 0] σ Φ := by
  obtain ⟨h40, hs, nx, hn, hnx, hU⟩ := hA
  refine i_AC_keep (Nat.le_succ 2) ?_
  simp only [w_AC_keep_0, c_ic, c_lc, c_nul, c_il, c_ll, c_al, c_is, c_ls, c_as, c_inc, c_b2, c_b2n, c_b1, c_d2, c_d2n, c_dsh, c_i2l, c_l2i, c_lcm, c_dup, c_dup2, c_pop, c_j1, c_j2, c_jn, c_sw0, c_sw, c_gI, c_gL, c_gR, c_gS, c_pI, c_pZ, c_pL, c_pR, c_iald, c_ialg, c_iast, c_iasg, c_bald, c_bast, c_lald, c_last, c_aald, c_aals, c_aast, c_alen, c_bnd, c_str, c_bndl, c_bnln, c_sval, c_scod, c_sbal, c_sbln, c_fmt, c_stop, c_iret, c_zret, c_nret, c_aret, c_vret, c_lret, c_cpy, c_callV, c_callS, tkA, lget, lput, lkill, jpush, vsz, jcat, lins, lent, List.length_cons, List.length_nil, List.replicate, List.append_nil, List.cons_append, List.nil_append, reduceIte, Nat.reduceAdd, Nat.reduceSub, Nat.reduceEqDiff, true_and, and_true, Nat.reduceLeDiff, Nat.lt_irrefl, Nat.succ_ne_self, forall_const, ne_eq, not_true_eq_false, not_false_eq_true, false_implies, implies_true, true_implies, true_or, or_true, or_false, false_or, eq_self, Int.reduceEq, Int.reduceLT, Int.reduceLE, Int.reduceNeg, Int.reduceToNat, Int.reduceAdd, Int.reduceSub, Int.reduceMul, Int.reduceNe, and_self, hnx]
  refine ok_MA_floorMod ⟨by omega, by omega⟩ (by decide) (by decide) ?_
  have e : ((nx : Int) % 40).toNat = nx := by omega
  simp only [c_ic, c_lc, c_nul, c_il, c_ll, c_al, c_is, c_ls, c_as, c_inc, c_b2, c_b2n, c_b1, c_d2, c_d2n, c_dsh, c_i2l, c_l2i, c_lcm, c_dup, c_dup2, c_pop, c_j1, c_j2, c_jn, c_sw0, c_sw, c_gI, c_gL, c_gR, c_gS, c_pI, c_pZ, c_pL, c_pR, c_iald, c_ialg, c_iast, c_iasg, c_bald, c_bast, c_lald, c_last, c_aald, c_aals, c_aast, c_alen, c_bnd, c_str, c_bndl, c_bnln, c_sval, c_scod, c_sbal, c_sbln, c_fmt, c_stop, c_iret, c_zret, c_nret, c_aret, c_vret, c_lret, c_cpy, c_callV, c_callS, tkA, lget, lput, lkill, jpush, vsz, jcat, lins, lent, List.length_cons, List.length_nil, List.replicate, List.append_nil, List.cons_append, List.nil_append, reduceIte, Nat.reduceAdd, Nat.reduceSub, Nat.reduceEqDiff, true_and, and_true, Nat.reduceLeDiff, Nat.lt_irrefl, Nat.succ_ne_self, forall_const, ne_eq, not_true_eq_false, not_false_eq_true, false_implies, implies_true, true_implies, true_or, or_true, or_false, false_or, eq_self, Int.reduceEq, Int.reduceLT, Int.reduceLE, Int.reduceNeg, Int.reduceToNat, Int.reduceAdd, Int.reduceSub, Int.reduceMul, Int.reduceNe, and_self, e]
  refine ⟨⟨by omega, by omega⟩, ?_⟩
  rw [show nx + 3 = 3 + nx by omega]
  refine ok_WO_copyFrom (by omega) (fun τ t1 t2 => ?_)
  have n0 : ∀ o, ¬ SW (3 + nx) 0 0 o := fun o q => by unfold SW at q; omega
  have c1 : τ.1 0 0 1 = nx := by rw [t1.i (n0 1)]; exact hnx
  have c2 : τ.1 0 0 2 = U.length := by rw [t1.i (n0 2)]; exact hs
  simp only [w_AC_keep_24, c_ic, c_lc, c_nul, c_il, c_ll, c_al, c_is, c_ls, c_as, c_inc, c_b2, c_b2n, c_b1, c_d2, c_d2n, c_dsh, c_i2l, c_l2i, c_lcm, c_dup, c_dup2, c_pop, c_j1, c_j2, c_jn, c_sw0, c_sw, c_gI, c_gL, c_gR, c_gS, c_pI, c_pZ, c_pL, c_pR, c_iald, c_ialg, c_iast, c_iasg, c_bald, c_bast, c_lald, c_last, c_aald, c_aals, c_aast, c_alen, c_bnd, c_str, c_bndl, c_bnln, c_sval, c_scod, c_sbal, c_sbln, c_fmt, c_stop, c_iret, c_zret, c_nret, c_aret, c_vret, c_lret, c_cpy, c_callV, c_callS, tkA, lget, lput, lkill, jpush, vsz, jcat, lins, lent, List.length_cons, List.length_nil, List.replicate, List.append_nil, List.cons_append, List.nil_append, reduceIte, Nat.reduceAdd, Nat.reduceSub, Nat.reduceEqDiff, true_and, and_true, Nat.reduceLeDiff, Nat.lt_irrefl, Nat.succ_ne_self, forall_const, ne_eq, not_true_eq_false, not_false_eq_true, false_implies, implies_true, true_implies, true_or, or_true, or_false, false_or, eq_self, Int.reduceEq, Int.reduceLT, Int.reduceLE, Int.reduceNeg, Int.reduceToNat, Int.reduceAdd, Int.reduceSub, Int.reduceMul, Int.reduceNe, and_self, c1]
  rw [wr_id (by omega) (by omega)]
  refine ok_MA_floorMod ⟨by omega, by omega⟩ (by decide) (by decide) ?_
  simp only [c_ic, c_lc, c_nul, c_il, c_ll, c_al, c_is, c_ls, c_as, c_inc, c_b2, c_b2n, c_b1, c_d2, c_d2n, c_dsh, c_i2l, c_l2i, c_lcm, c_dup, c_dup2, c_pop, c_j1, c_j2, c_jn, c_sw0, c_sw, c_gI, c_gL, c_gR, c_gS, c_pI, c_pZ, c_pL, c_pR, c_iald, c_ialg, c_iast, c_iasg, c_bald, c_bast, c_lald, c_last, c_aald, c_aals, c_aast, c_alen, c_bnd, c_str, c_bndl, c_bnln, c_sval, c_scod, c_sbal, c_sbln, c_fmt, c_stop, c_iret, c_zret, c_nret, c_aret, c_vret, c_lret, c_cpy, c_callV, c_callS, tkA, lget, lput, lkill, jpush, vsz, jcat, lins, lent, List.length_cons, List.length_nil, List.replicate, List.append_nil, List.cons_append, List.nil_append, reduceIte, Nat.reduceAdd, Nat.reduceSub, Nat.reduceEqDiff, true_and, and_true, Nat.reduceLeDiff, Nat.lt_irrefl, Nat.succ_ne_self, forall_const, ne_eq, not_true_eq_false, not_false_eq_true, false_implies, implies_true, true_implies, true_or, or_true, or_false, false_or, eq_self, Int.reduceEq, Int.reduceLT, Int.reduceLE, Int.reduceNeg, Int.reduceToNat, Int.reduceAdd, Int.reduceSub, Int.reduceMul, Int.reduceNe, and_self, g_sI, g_sI2, g_sL1, g_sL, g_sL2, g_sR1, g_sR2, g_sR, g_sA, g_sA2, and_false, false_and, and_self, if_false, if_true, c2, Nat.reduceEqDiff, and_true]
  rw [wr_id (by omega) (by omega)]
  refine ok_MA_min ?_
  simp only [c_ic, c_lc, c_nul, c_il, c_ll, c_al, c_is, c_ls, c_as, c_inc, c_b2, c_b2n, c_b1, c_d2, c_d2n, c_dsh, c_i2l, c_l2i, c_lcm, c_dup, c_dup2, c_pop, c_j1, c_j2, c_jn, c_sw0, c_sw, c_gI, c_gL, c_gR, c_gS, c_pI, c_pZ, c_pL, c_pR, c_iald, c_ialg, c_iast, c_iasg, c_bald, c_bast, c_lald, c_last, c_aald, c_aals, c_aast, c_alen, c_bnd, c_str, c_bndl, c_bnln, c_sval, c_scod, c_sbal, c_sbln, c_fmt, c_stop, c_iret, c_zret, c_nret, c_aret, c_vret, c_lret, c_cpy, c_callV, c_callS, tkA, lget, lput, lkill, jpush, vsz, jcat, lins, lent, List.length_cons, List.length_nil, List.replicate, List.append_nil, List.cons_append, List.nil_append, reduceIte, Nat.reduceAdd, Nat.reduceSub, Nat.reduceEqDiff, true_and, and_true, Nat.reduceLeDiff, Nat.lt_irrefl, Nat.succ_ne_self, forall_const, ne_eq, not_true_eq_false, not_false_eq_true, false_implies, implies_true, true_implies, true_or, or_true, or_false, false_or, eq_self, Int.reduceEq, Int.reduceLT, Int.reduceLE, Int.reduceNeg, Int.reduceToNat, Int.reduceAdd, Int.reduceSub, Int.reduceMul, Int.reduceNe, and_self]
  have f0 : Fr SAk σ τ := t1.wk (fun k j o q => Or.inr ⟨by have := q.1; omega, by have := q.1; omega, q.2⟩)
  refine h _ ((f0.sI (Or.inl ⟨rfl, rfl⟩)).sI (Or.inl ⟨rfl, rfl⟩)) ?_
  have hl := keepU_len (W := W) h40
  refine ⟨by omega, ?_, (nx + 1) % 40, by omega, ?_, fun i hi => ?_⟩
  · simp only [g_sI, and_self, if_true]
    rw [hl]
    omega
  · simp only [g_sI, Nat.reduceEqDiff, and_false, and_self, if_false, if_true]
    omega
  · refine CW.fr (S := fun k j _ => k = 0) (σ := τ) ((Fr.rf.sI rfl).sI rfl) (fun k o q => by omega) ?_
    rw [hl] at hi ⊢
    by_cases z : i + 1 = min 40 (U.length + 1)
    · have e1 : 3 + ((nx + 1) % 40 + 40 - min 40 (U.length + 1) + i) % 40 = 3 + nx := by omega
      have e2 : (keepU U W).getD i (fun _ => 0) = W := by
        unfold keepU
        split
        · rw [List.getD_eq_getElem?_getD, List.getElem?_append_right (by simp only [List.length_tail]; omega), show i - U.tail.length = 0 by simp only [List.length_tail]; omega]
          rfl
        · rw [List.getD_eq_getElem?_getD, List.getElem?_append_right (by omega), show i - U.length = 0 by omega]
          rfl
      rw [e1, e2]
      exact t2 K W hK hW.2.2.2.2.2.1.2 hW.2.2.2.2.2.2.2.1.2 hC
    · have hi2 : i + (if U.length = 40 then 1 else 0) < U.length := by split <;> omega
      have e1 : 3 + ((nx + 1) % 40 + 40 - min 40 (U.length + 1) + i) % 40 = 3 + (nx + 40 - U.length + (i + (if U.length = 40 then 1 else 0))) % 40 := by split <;> omega
      have e2 : (keepU U W).getD i (fun _ => 0) = U.getD (i + (if U.length = 40 then 1 else 0)) (fun _ => 0) := by
        unfold keepU
        split
        · rename_i q
          rw [if_pos q] at hi2
          rw [List.getD_eq_getElem?_getD, List.getElem?_append_left (by simp only [List.length_tail]; omega), List.getElem?_tail, List.getD_eq_getElem?_getD]
        · rename_i q
          rw [if_neg q] at hi2
          rw [List.getD_eq_getElem?_getD, List.getElem?_append_left (by omega), List.getD_eq_getElem?_getD, Nat.add_zero]
      rw [e1, e2]
      have := hU _ hi2
      refine this.fr t1 (fun k o q => ?_)
      unfold SW
      intro w
      have := w.1
      split at this <;> omega
theorem ok_AC_giveBack {σ : jM} {Φ : jPh} {d K : Nat} {U : List (Nat → Int)} (hK : K ≤ 4) (hA : AK σ K U) (hW : ∀ V ∈ U, V 19 ≤ 30 ∧ V 110 ≤ 60) (h0 : U = [] → Φ (some (.inl 0)) σ) (h : ∀ (U' : List (Nat → Int)) (V : Nat → Int) (τ : jM), U = U' ++ [V] → Fr (fun k j o => SW 0 k j o ∨ (k = 0 ∧ j = 0)) σ τ → AK τ K U' → CW τ 0 K V → Φ (some (.inl 1)) τ) : Ct (d + 2) M_AC_giveBack [rf 0 0, rf 8 0] σ Φ := by
  obtain ⟨h40, hs, nx, hn, hnx, hU⟩ := hA
  refine i_AC_giveBack (Nat.le_succ 2) ?_
  simp only [w_AC_giveBack_0, c_ic, c_lc, c_nul, c_il, c_ll, c_al, c_is, c_ls, c_as, c_inc, c_b2, c_b2n, c_b1, c_d2, c_d2n, c_dsh, c_i2l, c_l2i, c_lcm, c_dup, c_dup2, c_pop, c_j1, c_j2, c_jn, c_sw0, c_sw, c_gI, c_gL, c_gR, c_gS, c_pI, c_pZ, c_pL, c_pR, c_iald, c_ialg, c_iast, c_iasg, c_bald, c_bast, c_lald, c_last, c_aald, c_aals, c_aast, c_alen, c_bnd, c_str, c_bndl, c_bnln, c_sval, c_scod, c_sbal, c_sbln, c_fmt, c_stop, c_iret, c_zret, c_nret, c_aret, c_vret, c_lret, c_cpy, c_callV, c_callS, tkA, lget, lput, lkill, jpush, vsz, jcat, lins, lent, List.length_cons, List.length_nil, List.replicate, List.append_nil, List.cons_append, List.nil_append, reduceIte, Nat.reduceAdd, Nat.reduceSub, Nat.reduceEqDiff, true_and, and_true, Nat.reduceLeDiff, Nat.lt_irrefl, Nat.succ_ne_self, forall_const, ne_eq, not_true_eq_false, not_false_eq_true, false_implies, implies_true, true_implies, true_or, or_true, or_false, false_or, eq_self, Int.reduceEq, Int.reduceLT, Int.reduceLE, Int.reduceNeg, Int.reduceToNat, Int.reduceAdd, Int.reduceSub, Int.reduceMul, Int.reduceNe, and_self, hs]
  refine ⟨fun z => ?_, fun z => h0 (List.eq_nil_of_length_eq_zero (by omega))⟩
  obtain ⟨U', V, rfl⟩ : ∃ U' V, U = U' ++ [V] := ⟨U.dropLast, U.getLast (by intro q; rw [q] at z; simp at z), (List.dropLast_concat_getLast _).symm⟩
  have hlen : (U' ++ [V]).length = U'.length + 1 := by simp
  rw [hlen] at h40 hs hU z
  simp only [w_AC_giveBack_9, c_ic, c_lc, c_nul, c_il, c_ll, c_al, c_is, c_ls, c_as, c_inc, c_b2, c_b2n, c_b1, c_d2, c_d2n, c_dsh, c_i2l, c_l2i, c_lcm, c_dup, c_dup2, c_pop, c_j1, c_j2, c_jn, c_sw0, c_sw, c_gI, c_gL, c_gR, c_gS, c_pI, c_pZ, c_pL, c_pR, c_iald, c_ialg, c_iast, c_iasg, c_bald, c_bast, c_lald, c_last, c_aald, c_aals, c_aast, c_alen, c_bnd, c_str, c_bndl, c_bnln, c_sval, c_scod, c_sbal, c_sbln, c_fmt, c_stop, c_iret, c_zret, c_nret, c_aret, c_vret, c_lret, c_cpy, c_callV, c_callS, tkA, lget, lput, lkill, jpush, vsz, jcat, lins, lent, List.length_cons, List.length_nil, List.replicate, List.append_nil, List.cons_append, List.nil_append, reduceIte, Nat.reduceAdd, Nat.reduceSub, Nat.reduceEqDiff, true_and, and_true, Nat.reduceLeDiff, Nat.lt_irrefl, Nat.succ_ne_self, forall_const, ne_eq, not_true_eq_false, not_false_eq_true, false_implies, implies_true, true_implies, true_or, or_true, or_false, false_or, eq_self, Int.reduceEq, Int.reduceLT, Int.reduceLE, Int.reduceNeg, Int.reduceToNat, Int.reduceAdd, Int.reduceSub, Int.reduceMul, Int.reduceNe, and_self, hnx]
  rw [wr_id (by omega) (by omega)]
  refine ok_MA_floorMod ⟨by omega, by omega⟩ (by decide) (by decide) ?_
  simp only [c_ic, c_lc, c_nul, c_il, c_ll, c_al, c_is, c_ls, c_as, c_inc, c_b2, c_b2n, c_b1, c_d2, c_d2n, c_dsh, c_i2l, c_l2i, c_lcm, c_dup, c_dup2, c_pop, c_j1, c_j2, c_jn, c_sw0, c_sw, c_gI, c_gL, c_gR, c_gS, c_pI, c_pZ, c_pL, c_pR, c_iald, c_ialg, c_iast, c_iasg, c_bald, c_bast, c_lald, c_last, c_aald, c_aals, c_aast, c_alen, c_bnd, c_str, c_bndl, c_bnln, c_sval, c_scod, c_sbal, c_sbln, c_fmt, c_stop, c_iret, c_zret, c_nret, c_aret, c_vret, c_lret, c_cpy, c_callV, c_callS, tkA, lget, lput, lkill, jpush, vsz, jcat, lins, lent, List.length_cons, List.length_nil, List.replicate, List.append_nil, List.cons_append, List.nil_append, reduceIte, Nat.reduceAdd, Nat.reduceSub, Nat.reduceEqDiff, true_and, and_true, Nat.reduceLeDiff, Nat.lt_irrefl, Nat.succ_ne_self, forall_const, ne_eq, not_true_eq_false, not_false_eq_true, false_implies, implies_true, true_implies, true_or, or_true, or_false, false_or, eq_self, Int.reduceEq, Int.reduceLT, Int.reduceLE, Int.reduceNeg, Int.reduceToNat, Int.reduceAdd, Int.reduceSub, Int.reduceMul, Int.reduceNe, and_self, g_sI, g_sI2, g_sL1, g_sL, g_sL2, g_sR1, g_sR2, g_sR, g_sA, g_sA2, and_false, false_and, and_self, if_false, if_true, hs, Nat.reduceEqDiff, and_true]
  have e : (((nx : Int) - 1) % 40).toNat = (nx + 39) % 40 := by omega
  rw [e, wr_id (by omega) (by omega)]
  refine ⟨⟨by omega, by omega⟩, ?_⟩
  rw [show (nx + 39) % 40 + 3 = 3 + (nx + 39) % 40 by omega]
  refine ok_WO_copyFrom (by omega) (fun τ t1 t2 => ?_)
  simp only [w_AC_giveBack_53, c_ic, c_lc, c_nul, c_il, c_ll, c_al, c_is, c_ls, c_as, c_inc, c_b2, c_b2n, c_b1, c_d2, c_d2n, c_dsh, c_i2l, c_l2i, c_lcm, c_dup, c_dup2, c_pop, c_j1, c_j2, c_jn, c_sw0, c_sw, c_gI, c_gL, c_gR, c_gS, c_pI, c_pZ, c_pL, c_pR, c_iald, c_ialg, c_iast, c_iasg, c_bald, c_bast, c_lald, c_last, c_aald, c_aals, c_aast, c_alen, c_bnd, c_str, c_bndl, c_bnln, c_sval, c_scod, c_sbal, c_sbln, c_fmt, c_stop, c_iret, c_zret, c_nret, c_aret, c_vret, c_lret, c_cpy, c_callV, c_callS, tkA, lget, lput, lkill, jpush, vsz, jcat, lins, lent, List.length_cons, List.length_nil, List.replicate, List.append_nil, List.cons_append, List.nil_append, reduceIte, Nat.reduceAdd, Nat.reduceSub, Nat.reduceEqDiff, true_and, and_true, Nat.reduceLeDiff, Nat.lt_irrefl, Nat.succ_ne_self, forall_const, ne_eq, not_true_eq_false, not_false_eq_true, false_implies, implies_true, true_implies, true_or, or_true, or_false, false_or, eq_self, Int.reduceEq, Int.reduceLT, Int.reduceLE, Int.reduceNeg, Int.reduceToNat, Int.reduceAdd, Int.reduceSub, Int.reduceMul, Int.reduceNe, and_self]
  have fS : Fr (fun k j _ => k = 0 ∧ j = 0) σ (sI (sI σ 0 0 1 (((nx : Int) - 1) % 40)) 0 0 2 (((U'.length + 1 : Nat) : Int) - 1)) := (Fr.rf.sI ⟨rfl, rfl⟩).sI ⟨rfl, rfl⟩
  have n0 : ∀ o, ¬ SW 0 0 0 o := fun o q => by unfold SW at q; omega
  have hVi := hW V (by simp)
  refine h U' V τ rfl ?_ ?_ ?_
  · exact (fS.wk (fun _ _ _ q => Or.inr q)).tr (t1.wk (fun _ _ _ q => Or.inl q))
  · refine ⟨by omega, ?_, (nx + 39) % 40, by omega, ?_, fun i hi => ?_⟩
    · rw [t1.i (n0 2)]
      simp only [g_sI, and_self, if_true]
      omega
    · rw [t1.i (n0 1)]
      simp only [g_sI, Nat.reduceEqDiff, and_false, and_self, if_false, if_true]
      omega
    · have := hU i (by omega)
      rw [List.getD_eq_getElem?_getD, List.getElem?_append_left hi, ← List.getD_eq_getElem?_getD] at this
      rw [show (nx + 39) % 40 + 40 - U'.length + i = (nx + 39) % 40 + 40 - U'.length + i from rfl, show ((nx + 39) % 40 + 40 - U'.length + i) % 40 = (nx + 40 - (U'.length + 1) + i) % 40 by omega]
      refine (this.fr fS (fun k o q => by omega)).fr t1 (fun k o q => ?_)
      unfold SW
      intro w
      have := w.1
      omega
  · have := hU U'.length (by omega)
    rw [List.getD_eq_getElem?_getD, List.getElem?_append_right (Nat.le_refl _), Nat.sub_self, show 3 + (nx + 40 - (U'.length + 1) + U'.length) % 40 = 3 + (nx + 39) % 40 by omega] at this
    exact t2 K V hK hVi.1 hVi.2 (this.fr fS (fun k o q => by omega))
theorem ok_AC_forget {σ : jM} {Φ : jPh} {d : Nat} (h : Φ none (sI σ 0 0 2 0)) : Ct (d + 1) M_AC_forget [rf 0 0] σ Φ := by
  refine i_AC_forget (Nat.le_refl 1) ?_
  simp only [w_AC_forget_0, c_ic, c_lc, c_nul, c_il, c_ll, c_al, c_is, c_ls, c_as, c_inc, c_b2, c_b2n, c_b1, c_d2, c_d2n, c_dsh, c_i2l, c_l2i, c_lcm, c_dup, c_dup2, c_pop, c_j1, c_j2, c_jn, c_sw0, c_sw, c_gI, c_gL, c_gR, c_gS, c_pI, c_pZ, c_pL, c_pR, c_iald, c_ialg, c_iast, c_iasg, c_bald, c_bast, c_lald, c_last, c_aald, c_aals, c_aast, c_alen, c_bnd, c_str, c_bndl, c_bnln, c_sval, c_scod, c_sbal, c_sbln, c_fmt, c_stop, c_iret, c_zret, c_nret, c_aret, c_vret, c_lret, c_cpy, c_callV, c_callS, tkA, lget, lput, lkill, jpush, vsz, jcat, lins, lent, List.length_cons, List.length_nil, List.replicate, List.append_nil, List.cons_append, List.nil_append, reduceIte, Nat.reduceAdd, Nat.reduceSub, Nat.reduceEqDiff, true_and, and_true, Nat.reduceLeDiff, Nat.lt_irrefl, Nat.succ_ne_self, forall_const, ne_eq, not_true_eq_false, not_false_eq_true, false_implies, implies_true, true_implies, true_or, or_true, or_false, false_or, eq_self, Int.reduceEq, Int.reduceLT, Int.reduceLE, Int.reduceNeg, Int.reduceToNat, Int.reduceAdd, Int.reduceSub, Int.reduceMul, Int.reduceNe, and_self]
  exact h
theorem AK.forget {σ : jM} {K K' : Nat} {U : List (Nat → Int)} (h : AK σ K U) : AK (sI σ 0 0 2 0) K' [] := by
  obtain ⟨-, -, nx, h1, h2, -⟩ := h
  exact ⟨by decide, rfl, nx, h1, by simp only [g_sI, Nat.reduceEqDiff, and_false, if_false]; exact h2, fun i hi => absurd hi (by simp)⟩
