/-! ===== 62 the model: a world's row; burns, writes ===== -/
def up (W : Nat → Int) (o : Nat) (v : Int) : Nat → Int := fun p => if p = o then v else W p
theorem up_at (W : Nat → Int) (o : Nat) (v : Int) (p : Nat) : up W o v p = if p = o then v else W p := rfl
theorem up_eq (W : Nat → Int) (o : Nat) (v : Int) : up W o v o = v := if_pos rfl
theorem up_ne {W : Nat → Int} {o p : Nat} {v : Int} (h : p ≠ o) : up W o v p = W p := if_neg h
theorem sA_r (σ : jM) (k j : Nat) (W : Nat → Int) (o : Nat) : (sA σ k j W).1 k j o = W o := by simp only [g_sA]; simp
theorem sA_row (σ : jM) (k j : Nat) (W : Nat → Int) : (sA σ k j W).1 k j = W := by funext o; exact sA_r σ k j W o
theorem sA_ne {σ : jM} {k j k' j' : Nat} {W : Nat → Int} (h : ¬ (k' = k ∧ j' = j)) : (sA σ k j W).1 k' j' = σ.1 k' j' := by funext o; simp only [g_sA]; rw [if_neg h]
theorem sA_sI (σ : jM) (k j : Nat) (W : Nat → Int) (o : Nat) (v : Int) : sI (sA σ k j W) k j o v = sA σ k j (up W o v) := by
  refine m_ext (fun k' j' o' => ?_) rfl
  simp only [g_sI, g_sA, up]
  by_cases h : k' = k ∧ j' = j
  · obtain ⟨rfl, rfl⟩ := h
    simp only [true_and, and_self, if_true]
  · rw [if_neg (fun q => h ⟨q.1, q.2.1⟩), if_neg h, if_neg h]
theorem sA_sA (σ : jM) (k j : Nat) (W V : Nat → Int) : sA (sA σ k j W) k j V = sA σ k j V := by
  refine m_ext (fun k' j' o' => ?_) rfl
  simp only [g_sA]
  split <;> rfl
theorem sA_self (σ : jM) (k j : Nat) : sA σ k j (σ.1 k j) = σ := by
  refine m_ext (fun k' j' o' => ?_) rfl
  simp only [g_sA]
  split
  · rename_i h; rw [h.1, h.2]
  · rfl
def burnS (W : Nat → Int) (i : Nat) : Nat → Int := fun p => if p = 19 then W 19 - 1 else if 20 + 3 * i ≤ p ∧ p < 20 + 3 * (W 19 - 1).toNat then W (p + 3) else if 20 + 3 * (W 19 - 1).toNat ≤ p ∧ p < 23 + 3 * (W 19 - 1).toNat then 0 else W p
theorem ok_MO_burns {σ : jM} {Φ : jPh} {d j i : Nat} {W : Nat → Int} (h19 : (i : Int) < W 19 ∧ W 19 ≤ 30) (h : Φ none (sA σ 69 j (burnS W i))) : Ct (d + 1) M_MO_burns [rf 69 j, .inl i] (sA σ 69 j W) Φ := by
  refine i_MO_burns (Nat.le_add_right 2 1) (fun At h15 h44 => ?_)
  obtain ⟨n, hn⟩ : ∃ n : Nat, W 19 = ((n + 1 : Nat) : Int) := ⟨(W 19 - 1).toNat, by omega⟩
  have hn1 : (W 19 - 1).toNat = n := by omega
  have en : wr (W 19 - 1) = n := by rw [wr_id (by omega) (by omega)]; omega
  -- the row as the first loop stands at p
  have key2 : ∀ (m q : Nat), q + m = 4 → 1 ≤ q → At 44 [some (rf 69 j), some (.inl i), some (.inl q)] [] (sA σ 69 j (fun p => if p = 19 then (n : Int) else if 20 + 3 * i ≤ p ∧ p < 20 + 3 * n then W (p + 3) else if 20 + 3 * n ≤ p ∧ p < 19 + 3 * n + q then 0 else W p)) := by
    intro m
    induction m with
    | zero =>
      intro q hq _
      refine h44 _ _ _ ?_
      simp only [w_MO_burns_44, w_MO_burns_69, c_ic, c_lc, c_nul, c_il, c_ll, c_al, c_is, c_ls, c_as, c_inc, c_b2, c_b2n, c_b1, c_d2, c_d2n, c_dsh, c_i2l, c_l2i, c_lcm, c_dup, c_dup2, c_pop, c_j1, c_j2, c_jn, c_sw0, c_sw, c_gI, c_gL, c_gR, c_gS, c_pI, c_pZ, c_pL, c_pR, c_iald, c_ialg, c_iast, c_iasg, c_bald, c_bast, c_lald, c_last, c_aald, c_aals, c_aast, c_alen, c_bnd, c_str, c_bndl, c_bnln, c_sval, c_scod, c_sbal, c_sbln, c_fmt, c_stop, c_iret, c_zret, c_nret, c_aret, c_vret, c_lret, c_cpy, c_callV, c_callS, tkA, lget, lput, lkill, jpush, vsz, jcat, lins, lent, List.length_cons, List.length_nil, List.replicate, List.append_nil, List.cons_append, List.nil_append, reduceIte, Nat.reduceAdd, Nat.reduceSub, Nat.reduceEqDiff, true_and, and_true, Nat.reduceLeDiff, Nat.lt_irrefl, Nat.succ_ne_self, forall_const, ne_eq, not_true_eq_false, not_false_eq_true, false_implies, implies_true, true_implies, true_or, or_true, or_false, false_or, eq_self, Int.reduceEq, Int.reduceLT, Int.reduceLE, Int.reduceNeg, Int.reduceToNat, Int.reduceAdd, Int.reduceSub, Int.reduceMul, Int.reduceNe, and_self]
      refine ⟨fun _ => ?_, fun z => absurd z (by omega)⟩
      unfold burnS at h
      rw [hn1, show W 19 - 1 = (n : Int) by omega] at h
      rw [show 19 + 3 * n + q = 23 + 3 * n by omega]
      exact h
    | succ m ih =>
      intro q hq q1
      refine h44 _ _ _ ?_
      simp only [w_MO_burns_44, c_ic, c_lc, c_nul, c_il, c_ll, c_al, c_is, c_ls, c_as, c_inc, c_b2, c_b2n, c_b1, c_d2, c_d2n, c_dsh, c_i2l, c_l2i, c_lcm, c_dup, c_dup2, c_pop, c_j1, c_j2, c_jn, c_sw0, c_sw, c_gI, c_gL, c_gR, c_gS, c_pI, c_pZ, c_pL, c_pR, c_iald, c_ialg, c_iast, c_iasg, c_bald, c_bast, c_lald, c_last, c_aald, c_aals, c_aast, c_alen, c_bnd, c_str, c_bndl, c_bnln, c_sval, c_scod, c_sbal, c_sbln, c_fmt, c_stop, c_iret, c_zret, c_nret, c_aret, c_vret, c_lret, c_cpy, c_callV, c_callS, tkA, lget, lput, lkill, jpush, vsz, jcat, lins, lent, List.length_cons, List.length_nil, List.replicate, List.append_nil, List.cons_append, List.nil_append, reduceIte, Nat.reduceAdd, Nat.reduceSub, Nat.reduceEqDiff, true_and, and_true, Nat.reduceLeDiff, Nat.lt_irrefl, Nat.succ_ne_self, forall_const, ne_eq, not_true_eq_false, not_false_eq_true, false_implies, implies_true, true_implies, true_or, or_true, or_false, false_or, eq_self, Int.reduceEq, Int.reduceLT, Int.reduceLE, Int.reduceNeg, Int.reduceToNat, Int.reduceAdd, Int.reduceSub, Int.reduceMul, Int.reduceNe, and_self, jln69, sA_r, if_true]
      have e1 : wr (wr (19 + wr (3 * (n : Int))) + q) = ((19 + 3 * n + q : Nat) : Int) := by simp (disch := omega) only [wr_id]; omega
      refine ⟨fun z => absurd z (by omega), fun _ => ⟨by decide, by decide, by decide, ?_⟩⟩
      rw [e1, Int.toNat_natCast, sA_sI, inc_nat (by omega)]
      refine ⟨⟨by omega, by omega⟩, ?_⟩
      have := ih (q + 1) (by omega) (by omega)
      refine Eq.mp ?_ this
      congr 2
      funext p
      simp only [up]
      repeat' split
      all_goals first | rfl | omega
  have key1 : ∀ (m p0 : Nat), p0 + m = 20 + 3 * n → 20 + 3 * i ≤ p0 → At 15 [some (rf 69 j), some (.inl i), some (.inl p0)] [] (sA σ 69 j (fun p => if p = 19 then (n : Int) else if 20 + 3 * i ≤ p ∧ p < p0 then W (p + 3) else W p)) := by
    intro m
    induction m with
    | zero =>
      intro p0 hp hi
      refine h15 _ _ _ ?_
      simp only [w_MO_burns_15, w_MO_burns_42, c_ic, c_lc, c_nul, c_il, c_ll, c_al, c_is, c_ls, c_as, c_inc, c_b2, c_b2n, c_b1, c_d2, c_d2n, c_dsh, c_i2l, c_l2i, c_lcm, c_dup, c_dup2, c_pop, c_j1, c_j2, c_jn, c_sw0, c_sw, c_gI, c_gL, c_gR, c_gS, c_pI, c_pZ, c_pL, c_pR, c_iald, c_ialg, c_iast, c_iasg, c_bald, c_bast, c_lald, c_last, c_aald, c_aals, c_aast, c_alen, c_bnd, c_str, c_bndl, c_bnln, c_sval, c_scod, c_sbal, c_sbln, c_fmt, c_stop, c_iret, c_zret, c_nret, c_aret, c_vret, c_lret, c_cpy, c_callV, c_callS, tkA, lget, lput, lkill, jpush, vsz, jcat, lins, lent, List.length_cons, List.length_nil, List.replicate, List.append_nil, List.cons_append, List.nil_append, reduceIte, Nat.reduceAdd, Nat.reduceSub, Nat.reduceEqDiff, true_and, and_true, Nat.reduceLeDiff, Nat.lt_irrefl, Nat.succ_ne_self, forall_const, ne_eq, not_true_eq_false, not_false_eq_true, false_implies, implies_true, true_implies, true_or, or_true, or_false, false_or, eq_self, Int.reduceEq, Int.reduceLT, Int.reduceLE, Int.reduceNeg, Int.reduceToNat, Int.reduceAdd, Int.reduceSub, Int.reduceMul, Int.reduceNe, and_self, jln69, sA_r, if_true]
      have e1 : wr (20 + wr (3 * (n : Int))) = ((20 + 3 * n : Nat) : Int) := by simp (disch := omega) only [wr_id]; omega
      refine ⟨by decide, by decide, ?_⟩
      rw [e1]
      refine ⟨fun _ => ?_, fun z => absurd z (by omega)⟩
      have := key2 3 1 rfl (Nat.le_refl 1)
      refine Eq.mp ?_ this
      congr 2
      funext p
      repeat' split
      all_goals first | rfl | omega
    | succ m ih =>
      intro p0 hp hi
      refine h15 _ _ _ ?_
      simp only [w_MO_burns_15, c_ic, c_lc, c_nul, c_il, c_ll, c_al, c_is, c_ls, c_as, c_inc, c_b2, c_b2n, c_b1, c_d2, c_d2n, c_dsh, c_i2l, c_l2i, c_lcm, c_dup, c_dup2, c_pop, c_j1, c_j2, c_jn, c_sw0, c_sw, c_gI, c_gL, c_gR, c_gS, c_pI, c_pZ, c_pL, c_pR, c_iald, c_ialg, c_iast, c_iasg, c_bald, c_bast, c_lald, c_last, c_aald, c_aals, c_aast, c_alen, c_bnd, c_str, c_bndl, c_bnln, c_sval, c_scod, c_sbal, c_sbln, c_fmt, c_stop, c_iret, c_zret, c_nret, c_aret, c_vret, c_lret, c_cpy, c_callV, c_callS, tkA, lget, lput, lkill, jpush, vsz, jcat, lins, lent, List.length_cons, List.length_nil, List.replicate, List.append_nil, List.cons_append, List.nil_append, reduceIte, Nat.reduceAdd, Nat.reduceSub, Nat.reduceEqDiff, true_and, and_true, Nat.reduceLeDiff, Nat.lt_irrefl, Nat.succ_ne_self, forall_const, ne_eq, not_true_eq_false, not_false_eq_true, false_implies, implies_true, true_implies, true_or, or_true, or_false, false_or, eq_self, Int.reduceEq, Int.reduceLT, Int.reduceLE, Int.reduceNeg, Int.reduceToNat, Int.reduceAdd, Int.reduceSub, Int.reduceMul, Int.reduceNe, and_self, jln69, sA_r, if_true]
      have e1 : wr (20 + wr (3 * (n : Int))) = ((20 + 3 * n : Nat) : Int) := by simp (disch := omega) only [wr_id]; omega
      have e2 : wr ((p0 : Int) + 3) = ((p0 + 3 : Nat) : Int) := by simp (disch := omega) only [wr_id]; omega
      refine ⟨by decide, by decide, ?_⟩
      rw [e1, e2]
      refine ⟨fun z => absurd z (by omega), fun _ => ⟨by decide, ⟨by omega, by omega⟩, by decide, ⟨by omega, by omega⟩, ?_⟩⟩
      simp only [Int.toNat_natCast]
      rw [sA_sI, inc_nat (by omega)]
      have := ih (p0 + 1) (by omega) (by omega)
      refine Eq.mp ?_ this
      congr 2
      funext p
      simp only [up]
      repeat' split
      all_goals first | rfl | omega | (congr 1; omega)
  simp only [w_MO_burns_0, c_ic, c_lc, c_nul, c_il, c_ll, c_al, c_is, c_ls, c_as, c_inc, c_b2, c_b2n, c_b1, c_d2, c_d2n, c_dsh, c_i2l, c_l2i, c_lcm, c_dup, c_dup2, c_pop, c_j1, c_j2, c_jn, c_sw0, c_sw, c_gI, c_gL, c_gR, c_gS, c_pI, c_pZ, c_pL, c_pR, c_iald, c_ialg, c_iast, c_iasg, c_bald, c_bast, c_lald, c_last, c_aald, c_aals, c_aast, c_alen, c_bnd, c_str, c_bndl, c_bnln, c_sval, c_scod, c_sbal, c_sbln, c_fmt, c_stop, c_iret, c_zret, c_nret, c_aret, c_vret, c_lret, c_cpy, c_callV, c_callS, tkA, lget, lput, lkill, jpush, vsz, jcat, lins, lent, List.length_cons, List.length_nil, List.replicate, List.append_nil, List.cons_append, List.nil_append, reduceIte, Nat.reduceAdd, Nat.reduceSub, Nat.reduceEqDiff, true_and, and_true, Nat.reduceLeDiff, Nat.lt_irrefl, Nat.succ_ne_self, forall_const, ne_eq, not_true_eq_false, not_false_eq_true, false_implies, implies_true, true_implies, true_or, or_true, or_false, false_or, eq_self, Int.reduceEq, Int.reduceLT, Int.reduceLE, Int.reduceNeg, Int.reduceToNat, Int.reduceAdd, Int.reduceSub, Int.reduceMul, Int.reduceNe, and_self, jln69, sA_r, Int.reduceToNat, en, sA_sI]
  have e1 : wr (20 + wr (3 * (i : Int))) = ((20 + 3 * i : Nat) : Int) := by simp (disch := omega) only [wr_id]; omega
  refine ⟨by decide, by decide, by decide, by decide, ?_⟩
  rw [e1]
  have := key1 (3 * n - 3 * i) (20 + 3 * i) (by omega) (Nat.le_refl _)
  refine Eq.mp ?_ this
  congr 2
  funext p
  simp only [up]
  repeat' split
  all_goals first | rfl | omega
def wriS (W : Nat → Int) (f who tells : Int) : Nat → Int :=
  let V := if W 19 = 30 then burnS W 0 else W
  let r := 20 + 3 * (V 19).toNat
  up (up (up (up V r f) (r + 1) who) (r + 2) tells) 19 (V 19 + 1)
theorem ok_MO_writes {σ : jM} {Φ : jPh} {d j : Nat} {W : Nat → Int} {f who tells : Int} (h19 : 0 ≤ W 19 ∧ W 19 ≤ 30) (h : Φ none (sA σ 69 j (wriS W f who tells))) : Ct (d + 2) M_MO_writes [rf 10 0, rf 69 j, .inl f, .inl who, .inl tells] (sA σ 69 j W) Φ := by
  refine i_MO_writes (Nat.le_add_right 5 1) ?_
  unfold wriS at h
  have tail : ∀ (V : Nat → Int), 0 ≤ V 19 ∧ V 19 ≤ 29 → Φ none (sA σ 69 j (up (up (up (up V (20 + 3 * (V 19).toNat) f) (20 + 3 * (V 19).toNat + 1) who) (20 + 3 * (V 19).toNat + 2) tells) 19 (V 19 + 1))) → w_MO_writes_14 Φ (d + 1) [some (rf 10 0), some (rf 69 j), some (.inl f), some (.inl who), some (.inl tells), none] [] (sA σ 69 j V) := by
    intro V hV hq
    obtain ⟨n, hn⟩ := Int.eq_ofNat_of_zero_le hV.1
    rw [hn] at hq hV
    have e1 : wr (20 + wr (3 * (n : Int))) = ((20 + 3 * n : Nat) : Int) := by simp (disch := omega) only [wr_id]; omega
    have e2 : wr (((20 + 3 * n : Nat) : Int) + 1) = ((20 + 3 * n + 1 : Nat) : Int) := by simp (disch := omega) only [wr_id]; omega
    have e3 : wr (((20 + 3 * n : Nat) : Int) + 2) = ((20 + 3 * n + 2 : Nat) : Int) := by simp (disch := omega) only [wr_id]; omega
    simp only [w_MO_writes_14, c_ic, c_lc, c_nul, c_il, c_ll, c_al, c_is, c_ls, c_as, c_inc, c_b2, c_b2n, c_b1, c_d2, c_d2n, c_dsh, c_i2l, c_l2i, c_lcm, c_dup, c_dup2, c_pop, c_j1, c_j2, c_jn, c_sw0, c_sw, c_gI, c_gL, c_gR, c_gS, c_pI, c_pZ, c_pL, c_pR, c_iald, c_ialg, c_iast, c_iasg, c_bald, c_bast, c_lald, c_last, c_aald, c_aals, c_aast, c_alen, c_bnd, c_str, c_bndl, c_bnln, c_sval, c_scod, c_sbal, c_sbln, c_fmt, c_stop, c_iret, c_zret, c_nret, c_aret, c_vret, c_lret, c_cpy, c_callV, c_callS, tkA, lget, lput, lkill, jpush, vsz, jcat, lins, lent, List.length_cons, List.length_nil, List.replicate, List.append_nil, List.cons_append, List.nil_append, reduceIte, Nat.reduceAdd, Nat.reduceSub, Nat.reduceEqDiff, true_and, and_true, Nat.reduceLeDiff, Nat.lt_irrefl, Nat.succ_ne_self, forall_const, ne_eq, not_true_eq_false, not_false_eq_true, false_implies, implies_true, true_implies, true_or, or_true, or_false, false_or, eq_self, Int.reduceEq, Int.reduceLT, Int.reduceLE, Int.reduceNeg, Int.reduceToNat, Int.reduceAdd, Int.reduceSub, Int.reduceMul, Int.reduceNe, and_self, jln69, sA_r, Int.reduceToNat, sA_sI, hn, e1, e2, e3, Int.toNat_natCast]
    rw [up_ne (by omega), up_ne (by omega), up_ne (by omega), hn, wr_id (x := (n : Int) + 1) (by omega) (by omega)]
    refine ⟨by decide, by decide, by decide, ⟨by omega, by omega⟩, by decide, ⟨by omega, by omega⟩, by decide, ⟨by omega, by omega⟩, by decide, by decide, by decide, by decide, ?_⟩
    exact hq
  simp only [w_MO_writes_0, c_ic, c_lc, c_nul, c_il, c_ll, c_al, c_is, c_ls, c_as, c_inc, c_b2, c_b2n, c_b1, c_d2, c_d2n, c_dsh, c_i2l, c_l2i, c_lcm, c_dup, c_dup2, c_pop, c_j1, c_j2, c_jn, c_sw0, c_sw, c_gI, c_gL, c_gR, c_gS, c_pI, c_pZ, c_pL, c_pR, c_iald, c_ialg, c_iast, c_iasg, c_bald, c_bast, c_lald, c_last, c_aald, c_aals, c_aast, c_alen, c_bnd, c_str, c_bndl, c_bnln, c_sval, c_scod, c_sbal, c_sbln, c_fmt, c_stop, c_iret, c_zret, c_nret, c_aret, c_vret, c_lret, c_cpy, c_callV, c_callS, tkA, lget, lput, lkill, jpush, vsz, jcat, lins, lent, List.length_cons, List.length_nil, List.replicate, List.append_nil, List.cons_append, List.nil_append, reduceIte, Nat.reduceAdd, Nat.reduceSub, Nat.reduceEqDiff, true_and, and_true, Nat.reduceLeDiff, Nat.lt_irrefl, Nat.succ_ne_self, forall_const, ne_eq, not_true_eq_false, not_false_eq_true, false_implies, implies_true, true_implies, true_or, or_true, or_false, false_or, eq_self, Int.reduceEq, Int.reduceLT, Int.reduceLE, Int.reduceNeg, Int.reduceToNat, Int.reduceAdd, Int.reduceSub, Int.reduceMul, Int.reduceNe, and_self, jln69, sA_r, Int.reduceToNat]
  refine ⟨by decide, by decide, fun z => ?_, fun z => ?_⟩
  · rw [if_neg z] at h
    exact tail W (by omega) h
  · have z := Classical.not_not.mp z
    rw [if_pos z] at h
    refine ok_MO_burns (i := 0) (by omega) ?_
    simp only [c_ic, c_lc, c_nul, c_il, c_ll, c_al, c_is, c_ls, c_as, c_inc, c_b2, c_b2n, c_b1, c_d2, c_d2n, c_dsh, c_i2l, c_l2i, c_lcm, c_dup, c_dup2, c_pop, c_j1, c_j2, c_jn, c_sw0, c_sw, c_gI, c_gL, c_gR, c_gS, c_pI, c_pZ, c_pL, c_pR, c_iald, c_ialg, c_iast, c_iasg, c_bald, c_bast, c_lald, c_last, c_aald, c_aals, c_aast, c_alen, c_bnd, c_str, c_bndl, c_bnln, c_sval, c_scod, c_sbal, c_sbln, c_fmt, c_stop, c_iret, c_zret, c_nret, c_aret, c_vret, c_lret, c_cpy, c_callV, c_callS, tkA, lget, lput, lkill, jpush, vsz, jcat, lins, lent, List.length_cons, List.length_nil, List.replicate, List.append_nil, List.cons_append, List.nil_append, reduceIte, Nat.reduceAdd, Nat.reduceSub, Nat.reduceEqDiff, true_and, and_true, Nat.reduceLeDiff, Nat.lt_irrefl, Nat.succ_ne_self, forall_const, ne_eq, not_true_eq_false, not_false_eq_true, false_implies, implies_true, true_implies, true_or, or_true, or_false, false_or, eq_self, Int.reduceEq, Int.reduceLT, Int.reduceLE, Int.reduceNeg, Int.reduceToNat, Int.reduceAdd, Int.reduceSub, Int.reduceMul, Int.reduceNe, and_self]
    exact tail (burnS W 0) (by simp only [burnS, if_true]; omega) h
