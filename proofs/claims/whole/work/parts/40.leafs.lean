/-! ===== 40 leafs: memories; the JDK's methods ===== -/
theorem g_sI (σ : jM) (k j o k' j' o' : Nat) (v : Int) : (sI σ k j o v).1 k' j' o' = if k' = k ∧ j' = j ∧ o' = o then v else σ.1 k' j' o' := rfl
theorem g_sI2 (σ : jM) (k j o : Nat) (v : Int) : (sI σ k j o v).2 = σ.2 := rfl
theorem g_sL1 (σ : jM) (k j o : Nat) (v : Int) : (sL σ k j o v).1 = σ.1 := rfl
theorem g_sL (σ : jM) (k j o k' j' o' : Nat) (v : Int) : (sL σ k j o v).2.1 k' j' o' = if k' = k ∧ j' = j ∧ o' = o then v else σ.2.1 k' j' o' := rfl
theorem g_sL2 (σ : jM) (k j o : Nat) (v : Int) : (sL σ k j o v).2.2 = σ.2.2 := rfl
theorem g_sR1 (σ : jM) (k j o : Nat) (v : Option Nat) : (sR σ k j o v).1 = σ.1 := rfl
theorem g_sR2 (σ : jM) (k j o : Nat) (v : Option Nat) : (sR σ k j o v).2.1 = σ.2.1 := rfl
theorem g_sR (σ : jM) (k j o k' j' o' : Nat) (v : Option Nat) : (sR σ k j o v).2.2 k' j' o' = if k' = k ∧ j' = j ∧ o' = o then v else σ.2.2 k' j' o' := rfl
theorem g_sA (σ : jM) (k j k' j' o' : Nat) (f : Nat → Int) : (sA σ k j f).1 k' j' o' = if k' = k ∧ j' = j then f o' else σ.1 k' j' o' := rfl
theorem g_sA2 (σ : jM) (k j : Nat) (f : Nat → Int) : (sA σ k j f).2 = σ.2 := rfl
theorem sI_sI (σ : jM) (k j o : Nat) (v w : Int) : sI (sI σ k j o v) k j o w = sI σ k j o w := by
  refine Prod.ext ?_ rfl
  funext k' j' o'
  simp only [g_sI]
  split <;> rfl
theorem sI_self (σ : jM) (k j o : Nat) {v : Int} (h : σ.1 k j o = v) : sI σ k j o v = σ := by
  refine Prod.ext ?_ rfl
  funext k' j' o'
  simp only [g_sI]
  split
  · rename_i e; rw [e.1, e.2.1, e.2.2, h]
  · rfl
theorem sI_comm (σ : jM) {k j o k' j' o' : Nat} {v w : Int} (h : (k, j, o) ≠ (k', j', o')) : sI (sI σ k j o v) k' j' o' w = sI (sI σ k' j' o' w) k j o v := by
  refine Prod.ext ?_ rfl
  funext a b c
  simp only [g_sI]
  split
  · rename_i e
    split
    · rename_i e2; exact absurd (by rw [← e.1, ← e.2.1, ← e.2.2, ← e2.1, ← e2.2.1, ← e2.2.2]) h.symm
    · rfl
  · rfl
theorem ok_MA_max {σ : jM} {Φ : jPh} {d : Nat} {x y : Int} (h : Φ (some (.inl (max x y))) σ) : Ct (d + 1) M_MA_max [.inl x, .inl y] σ Φ := by
  refine i_MA_max (Nat.le_refl 2) ?_
  simp only [w_MA_max_0, w_MA_max_9, w_MA_max_10, c_ic, c_lc, c_nul, c_il, c_ll, c_al, c_is, c_ls, c_as, c_inc, c_b2, c_b2n, c_b1, c_d2, c_d2n, c_dsh, c_i2l, c_l2i, c_lcm, c_dup, c_dup2, c_pop, c_j1, c_j2, c_jn, c_sw0, c_sw, c_gI, c_gL, c_gR, c_gS, c_pI, c_pZ, c_pL, c_pR, c_iald, c_ialg, c_iast, c_iasg, c_bald, c_bast, c_lald, c_last, c_aald, c_aals, c_aast, c_alen, c_bnd, c_str, c_bndl, c_bnln, c_sval, c_scod, c_sbal, c_sbln, c_fmt, c_stop, c_iret, c_zret, c_nret, c_aret, c_vret, c_lret, c_cpy, c_callV, c_callS, tkA, lget, lput, lkill, jpush, vsz, jcat, lins, lent, List.length_cons, List.length_nil, List.replicate, List.append_nil, List.cons_append, List.nil_append, reduceIte, Nat.reduceAdd, Nat.reduceSub, Nat.reduceEqDiff, true_and, and_true, Nat.reduceLeDiff, Nat.lt_irrefl, Nat.succ_ne_self, forall_const, ne_eq, not_true_eq_false, not_false_eq_true, false_implies, implies_true, true_implies, true_or, or_true, or_false, false_or, eq_self, Int.reduceEq, Int.reduceLT, Int.reduceLE, Int.reduceNeg, Int.reduceToNat, Int.reduceAdd, Int.reduceSub, Int.reduceMul, Int.reduceNe, and_self]
  refine ⟨fun h1 => ?_, fun h1 => ?_⟩
  · rwa [show max x y = y by omega] at h
  · rwa [show max x y = x by omega] at h
theorem ok_MA_min {σ : jM} {Φ : jPh} {d : Nat} {x y : Int} (h : Φ (some (.inl (min x y))) σ) : Ct (d + 1) M_MA_min [.inl x, .inl y] σ Φ := by
  refine i_MA_min (Nat.le_refl 2) ?_
  simp only [w_MA_min_0, w_MA_min_9, w_MA_min_10, c_ic, c_lc, c_nul, c_il, c_ll, c_al, c_is, c_ls, c_as, c_inc, c_b2, c_b2n, c_b1, c_d2, c_d2n, c_dsh, c_i2l, c_l2i, c_lcm, c_dup, c_dup2, c_pop, c_j1, c_j2, c_jn, c_sw0, c_sw, c_gI, c_gL, c_gR, c_gS, c_pI, c_pZ, c_pL, c_pR, c_iald, c_ialg, c_iast, c_iasg, c_bald, c_bast, c_lald, c_last, c_aald, c_aals, c_aast, c_alen, c_bnd, c_str, c_bndl, c_bnln, c_sval, c_scod, c_sbal, c_sbln, c_fmt, c_stop, c_iret, c_zret, c_nret, c_aret, c_vret, c_lret, c_cpy, c_callV, c_callS, tkA, lget, lput, lkill, jpush, vsz, jcat, lins, lent, List.length_cons, List.length_nil, List.replicate, List.append_nil, List.cons_append, List.nil_append, reduceIte, Nat.reduceAdd, Nat.reduceSub, Nat.reduceEqDiff, true_and, and_true, Nat.reduceLeDiff, Nat.lt_irrefl, Nat.succ_ne_self, forall_const, ne_eq, not_true_eq_false, not_false_eq_true, false_implies, implies_true, true_implies, true_or, or_true, or_false, false_or, eq_self, Int.reduceEq, Int.reduceLT, Int.reduceLE, Int.reduceNeg, Int.reduceToNat, Int.reduceAdd, Int.reduceSub, Int.reduceMul, Int.reduceNe, and_self]
  refine ⟨fun h1 => ?_, fun h1 => ?_⟩
  · rwa [show min x y = y by omega] at h
  · rwa [show min x y = x by omega] at h
theorem lcm3_lt (x y : Int) : lcm3 x y < 0 ↔ x < y := by
  unfold lcm3
  split
  · omega
  · split <;> omega
theorem lcm3_gt (x y : Int) : 0 < lcm3 x y ↔ y < x := by
  unfold lcm3
  split
  · omega
  · split <;> omega
theorem ok_MA_max2 {σ : jM} {Φ : jPh} {d : Nat} {x y : Int} (h : Φ (some (.inr (.inl (max x y)))) σ) : Ct (d + 1) M_MA_max2 [.inr (.inl x), .inr (.inl y)] σ Φ := by
  refine i_MA_max2 (Nat.le_refl 4) ?_
  simp only [w_MA_max2_0, w_MA_max2_10, w_MA_max2_11, c_ic, c_lc, c_nul, c_il, c_ll, c_al, c_is, c_ls, c_as, c_inc, c_b2, c_b2n, c_b1, c_d2, c_d2n, c_dsh, c_i2l, c_l2i, c_lcm, c_dup, c_dup2, c_pop, c_j1, c_j2, c_jn, c_sw0, c_sw, c_gI, c_gL, c_gR, c_gS, c_pI, c_pZ, c_pL, c_pR, c_iald, c_ialg, c_iast, c_iasg, c_bald, c_bast, c_lald, c_last, c_aald, c_aals, c_aast, c_alen, c_bnd, c_str, c_bndl, c_bnln, c_sval, c_scod, c_sbal, c_sbln, c_fmt, c_stop, c_iret, c_zret, c_nret, c_aret, c_vret, c_lret, c_cpy, c_callV, c_callS, tkA, lget, lput, lkill, jpush, vsz, jcat, lins, lent, List.length_cons, List.length_nil, List.replicate, List.append_nil, List.cons_append, List.nil_append, reduceIte, Nat.reduceAdd, Nat.reduceSub, Nat.reduceEqDiff, true_and, and_true, Nat.reduceLeDiff, Nat.lt_irrefl, Nat.succ_ne_self, forall_const, ne_eq, not_true_eq_false, not_false_eq_true, false_implies, implies_true, true_implies, true_or, or_true, or_false, false_or, eq_self, Int.reduceEq, Int.reduceLT, Int.reduceLE, Int.reduceNeg, Int.reduceToNat, Int.reduceAdd, Int.reduceSub, Int.reduceMul, Int.reduceNe, and_self, lcm3_lt]
  refine ⟨fun h1 => ?_, fun h1 => ?_⟩
  · rwa [show max x y = y by omega] at h
  · rwa [show max x y = x by omega] at h
theorem ok_MA_min2 {σ : jM} {Φ : jPh} {d : Nat} {x y : Int} (h : Φ (some (.inr (.inl (min x y)))) σ) : Ct (d + 1) M_MA_min2 [.inr (.inl x), .inr (.inl y)] σ Φ := by
  refine i_MA_min2 (Nat.le_refl 4) ?_
  simp only [w_MA_min2_0, w_MA_min2_10, w_MA_min2_11, c_ic, c_lc, c_nul, c_il, c_ll, c_al, c_is, c_ls, c_as, c_inc, c_b2, c_b2n, c_b1, c_d2, c_d2n, c_dsh, c_i2l, c_l2i, c_lcm, c_dup, c_dup2, c_pop, c_j1, c_j2, c_jn, c_sw0, c_sw, c_gI, c_gL, c_gR, c_gS, c_pI, c_pZ, c_pL, c_pR, c_iald, c_ialg, c_iast, c_iasg, c_bald, c_bast, c_lald, c_last, c_aald, c_aals, c_aast, c_alen, c_bnd, c_str, c_bndl, c_bnln, c_sval, c_scod, c_sbal, c_sbln, c_fmt, c_stop, c_iret, c_zret, c_nret, c_aret, c_vret, c_lret, c_cpy, c_callV, c_callS, tkA, lget, lput, lkill, jpush, vsz, jcat, lins, lent, List.length_cons, List.length_nil, List.replicate, List.append_nil, List.cons_append, List.nil_append, reduceIte, Nat.reduceAdd, Nat.reduceSub, Nat.reduceEqDiff, true_and, and_true, Nat.reduceLeDiff, Nat.lt_irrefl, Nat.succ_ne_self, forall_const, ne_eq, not_true_eq_false, not_false_eq_true, false_implies, implies_true, true_implies, true_or, or_true, or_false, false_or, eq_self, Int.reduceEq, Int.reduceLT, Int.reduceLE, Int.reduceNeg, Int.reduceToNat, Int.reduceAdd, Int.reduceSub, Int.reduceMul, Int.reduceNe, and_self, lcm3_gt]
  refine ⟨fun h1 => ?_, fun h1 => ?_⟩
  · rwa [show min x y = y by omega] at h
  · rwa [show min x y = x by omega] at h
theorem jdiv_eq {x y : Int} (hx : 0 ≤ x) (hx2 : x < 2147483648) (hy : 0 < y) (hy2 : y < 2147483648) : jdiv x y = x / y := by
  unfold jdiv
  rw [Int32.toInt_div, show (Int32.ofInt x).toInt = x from wr_id (by omega) hx2, show (Int32.ofInt y).toInt = y from wr_id (by omega) hy2, Int.tdiv_eq_ediv_of_nonneg hx]
  have h1 : 0 ≤ x / y := Int.ediv_nonneg hx (by omega)
  have h2 : x / y ≤ x := Int.ediv_le_self y hx
  rw [Int.bmod_eq_of_le (by omega) (by omega)]
theorem jrem_eq {x y : Int} (hx : 0 ≤ x) (hx2 : x < 2147483648) (hy : 0 < y) (hy2 : y < 2147483648) : jrem x y = x % y := by
  have h0 := jdiv_eq hx hx2 hy hy2
  have he : Int32.ofInt x / Int32.ofInt y = Int32.ofInt (x / y) := by rw [← h0]; exact (Int32.ofInt_toInt _).symm
  unfold jrem
  rw [he, ← Int32.ofInt_mul, ← Int32.ofInt_sub]
  have h1 : x - x / y * y = x % y := by have := Int.emod_add_mul_ediv x y; have := Int.mul_comm y (x / y); omega
  rw [h1]
  have h2 := Int.emod_nonneg x (show y ≠ 0 by omega)
  have h3 := Int.emod_lt_of_pos x hy
  exact wr_id (by omega) (by omega)
theorem jxor_sign {x y : Int} (hx : inR x) (hy : 0 ≤ y) (hy2 : y < 2147483648) : 0 ≤ jxor x y ↔ 0 ≤ x := by
  unfold jxor
  have hm : ∀ z : Int32, 0 ≤ z.toInt ↔ z.toBitVec.msb = false := fun z => by
    rw [BitVec.msb_eq_toInt]
    simp only [decide_eq_false_iff_not, Int.not_lt]
    exact Iff.rfl
  rw [hm]
  have e1 : (Int32.ofInt x ^^^ Int32.ofInt y).toBitVec = (Int32.ofInt x).toBitVec ^^^ (Int32.ofInt y).toBitVec := rfl
  have e2 : (Int32.ofInt y).toBitVec.msb = false := (hm _).mp (by show 0 ≤ wr y; rw [wr_id (by omega) hy2]; exact hy)
  rw [e1, BitVec.msb_xor, e2, Bool.xor_false, ← hm]
  show 0 ≤ wr x ↔ _
  rw [wr_id hx.1 hx.2]
