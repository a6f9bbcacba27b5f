/-! ===== 69 copies of worlds ===== -/
theorem ok_WO_copyFrom {σ : jM} {Φ : jPh} {d a b : Nat} (hab : b ≠ a) (h : ∀ τ, Fr (SW a) σ τ → (∀ K W, K ≤ 4 → W 19 ≤ 30 → W 110 ≤ 60 → CW σ b K W → CW τ a K W) → Φ none τ) : Ct (d + 1) M_WO_copyFrom [rf 8 a, rf 8 b] σ Φ := by
  refine i_WO_copyFrom (Nat.le_refl 2) ?_
  simp only [w_WO_copyFrom_0, c_ic, c_lc, c_nul, c_il, c_ll, c_al, c_is, c_ls, c_as, c_inc, c_b2, c_b2n, c_b1, c_d2, c_d2n, c_dsh, c_i2l, c_l2i, c_lcm, c_dup, c_dup2, c_pop, c_j1, c_j2, c_jn, c_sw0, c_sw, c_gI, c_gL, c_gR, c_gS, c_pI, c_pZ, c_pL, c_pR, c_iald, c_ialg, c_iast, c_iasg, c_bald, c_bast, c_lald, c_last, c_aald, c_aals, c_aast, c_alen, c_bnd, c_str, c_bndl, c_bnln, c_sval, c_scod, c_sbal, c_sbln, c_fmt, c_stop, c_iret, c_zret, c_nret, c_aret, c_vret, c_lret, c_cpy, c_callV, c_callS, tkA, lget, lput, lkill, jpush, vsz, jcat, lins, lent, List.length_cons, List.length_nil, List.replicate, List.append_nil, List.cons_append, List.nil_append, reduceIte, Nat.reduceAdd, Nat.reduceSub, Nat.reduceEqDiff, true_and, and_true, Nat.reduceLeDiff, Nat.lt_irrefl, Nat.succ_ne_self, forall_const, ne_eq, not_true_eq_false, not_false_eq_true, false_implies, implies_true, true_implies, true_or, or_true, or_false, false_or, eq_self, Int.reduceEq, Int.reduceLT, Int.reduceLE, Int.reduceNeg, Int.reduceToNat, Int.reduceAdd, Int.reduceSub, Int.reduceMul, Int.reduceNe, and_self, jln]
  refine ⟨by decide, by decide, by decide, by decide, by decide, by decide, by decide, by decide, by decide, by decide, by decide, by decide, by decide, by decide, by decide, by decide, by decide, by decide, by decide, by decide, by decide, by decide, by decide, by decide, ?_⟩
  refine h _ ?_ ?_
  · refine ((((((((((((Fr.rf.sA ?_).sA ?_).sA ?_).sA ?_).sA ?_).sA ?_).sA ?_).sA ?_).sI ?_).sI ?_).sI ?_).sI ?_) <;> first | exact SWi (by decide) | exact fun _ => SWi (by decide)
  · intro K W hK h19 h110 hc
    obtain ⟨h1, h2, h3, h4, h5⟩ := hc
    refine ⟨fun k hk => ?_, fun k hk => ?_, ?_, fun i hi => ?_, fun i hi => ?_⟩
    · have := h1 k hk
      simp only [g_sI, g_sA, cpyF, Nat.reduceEqDiff, false_and, if_false, true_and, and_true, if_true, hab, and_self, Int.reduceToNat, Nat.zero_le, Nat.zero_add, Nat.sub_zero]
      rw [if_pos (by omega), if_pos (by omega), if_pos (by omega)]
      exact this
    · have := h2 k hk
      simp only [g_sI, g_sA, cpyF, Nat.reduceEqDiff, false_and, if_false, true_and, and_true, if_true, hab, and_self, Int.reduceToNat, Nat.zero_le, Nat.zero_add, Nat.sub_zero]
      rw [if_pos (by omega), if_pos (by omega), if_pos (by omega)]
      exact this
    · simp only [g_sI, g_sA, cpyF, Nat.reduceEqDiff, false_and, and_false, if_false, true_and, and_true, if_true, hab, and_self]
      exact h3
    · have := h4 i hi
      simp only [g_sI, g_sA, cpyF, Nat.reduceEqDiff, false_and, if_false, true_and, and_true, if_true, hab, and_self, Int.reduceToNat, Nat.zero_le, Nat.zero_add, Nat.sub_zero]
      rw [if_pos (by omega)]
      exact this
    · have := h5 i hi
      simp only [g_sI, g_sA, cpyF, Nat.reduceEqDiff, false_and, if_false, true_and, and_true, if_true, hab, and_self, Int.reduceToNat, Nat.zero_le, Nat.zero_add, Nat.sub_zero]
      rw [if_pos (by omega)]
      exact this
/-- s laid over g from c0 on, q cells -/
def cpS (s g : Nat → Int) (c0 q : Nat) : Nat → Int := fun p => if c0 ≤ p ∧ p < c0 + q then s (p - c0) else g p
theorem cp_0 (s g : Nat → Int) (c0 : Nat) : cpS s g c0 0 = g := by
  funext p
  unfold cpS
  rw [if_neg (by omega)]
theorem cp_step (s g : Nat → Int) (c0 q : Nat) : up (cpS s g c0 q) (c0 + q) (s q) = cpS s g c0 (q + 1) := by
  funext p
  simp only [up_at, cpS]
  by_cases h : p = c0 + q
  · rw [if_pos h, if_pos (by omega), h, show c0 + q - c0 = q by omega]
  · rw [if_neg h]
    by_cases h2 : c0 ≤ p ∧ p < c0 + q
    · rw [if_pos h2, if_pos (by omega)]
    · rw [if_neg h2, if_neg (by omega)]
theorem cp_in {s g : Nat → Int} {c0 q p : Nat} (h : p < q) : cpS s g c0 q (c0 + p) = s p := by
  unfold cpS
  rw [if_pos (by omega), show c0 + p - c0 = p by omega]
theorem cp_out {s g : Nat → Int} {c0 q p : Nat} (h : p < c0 ∨ c0 + q ≤ p) : cpS s g c0 q p = g p := by
  unfold cpS
  rw [if_neg (by omega)]
theorem sI_row (τ : jM) (k j o : Nat) (v : Int) : (sI τ k j o v).1 k j = up (τ.1 k j) o v := by
  funext p
  simp only [g_sI, true_and, up_at]
theorem sI_rne {τ : jM} {k j o k' j' : Nat} {v : Int} (h : ¬ (k' = k ∧ j' = j)) : (sI τ k j o v).1 k' j' = τ.1 k' j' := by
  funext p
  simp only [g_sI]
  rw [if_neg (fun q => h ⟨q.1, q.2.1⟩)]
theorem ok_MO_copy {σ : jM} {Φ : jPh} {d a b : Nat} (hab : b ≠ a) (h : ∀ τ, Fr (fun k j _ => k = 69 ∧ j = a) σ τ → τ.1 69 a = up (cpS (σ.1 69 b) (σ.1 69 a) 0 110) 110 0 → Φ none τ) : Ct (d + 1) M_MO_copy [rf 69 b, rf 69 a] σ Φ := by
  refine i_MO_copy (Nat.le_succ 2) (fun At h2 => ?_)
  have key : ∀ (m q : Nat) (τ : jM), q + m = 110 → Fr (fun k j _ => k = 69 ∧ j = a) σ τ → τ.1 69 a = cpS (σ.1 69 b) (σ.1 69 a) 0 q → At 2 [some (rf 69 b), some (rf 69 a), some (.inl q)] [] τ := by
    intro m
    induction m with
    | zero =>
      intro q τ hq hF hr
      refine h2 _ _ _ ?_
      simp only [w_MO_copy_2, w_MO_copy_20, c_ic, c_lc, c_nul, c_il, c_ll, c_al, c_is, c_ls, c_as, c_inc, c_b2, c_b2n, c_b1, c_d2, c_d2n, c_dsh, c_i2l, c_l2i, c_lcm, c_dup, c_dup2, c_pop, c_j1, c_j2, c_jn, c_sw0, c_sw, c_gI, c_gL, c_gR, c_gS, c_pI, c_pZ, c_pL, c_pR, c_iald, c_ialg, c_iast, c_iasg, c_bald, c_bast, c_lald, c_last, c_aald, c_aals, c_aast, c_alen, c_bnd, c_str, c_bndl, c_bnln, c_sval, c_scod, c_sbal, c_sbln, c_fmt, c_stop, c_iret, c_zret, c_nret, c_aret, c_vret, c_lret, c_cpy, c_callV, c_callS, tkA, lget, lput, lkill, jpush, vsz, jcat, lins, lent, List.length_cons, List.length_nil, List.replicate, List.append_nil, List.cons_append, List.nil_append, reduceIte, Nat.reduceAdd, Nat.reduceSub, Nat.reduceEqDiff, true_and, and_true, Nat.reduceLeDiff, Nat.lt_irrefl, Nat.succ_ne_self, forall_const, ne_eq, not_true_eq_false, not_false_eq_true, false_implies, implies_true, true_implies, true_or, or_true, or_false, false_or, eq_self, Int.reduceEq, Int.reduceLT, Int.reduceLE, Int.reduceNeg, Int.reduceToNat, Int.reduceAdd, Int.reduceSub, Int.reduceMul, Int.reduceNe, and_self, jln69]
      refine ⟨fun _ => ⟨by decide, by decide, h _ (hF.sI ⟨rfl, rfl⟩) ?_⟩, fun z => absurd z (by omega)⟩
      rw [sI_row, hr, show q = 110 by omega]
    | succ m ih =>
      intro q τ hq hF hr
      refine h2 _ _ _ ?_
      simp only [w_MO_copy_2, c_ic, c_lc, c_nul, c_il, c_ll, c_al, c_is, c_ls, c_as, c_inc, c_b2, c_b2n, c_b1, c_d2, c_d2n, c_dsh, c_i2l, c_l2i, c_lcm, c_dup, c_dup2, c_pop, c_j1, c_j2, c_jn, c_sw0, c_sw, c_gI, c_gL, c_gR, c_gS, c_pI, c_pZ, c_pL, c_pR, c_iald, c_ialg, c_iast, c_iasg, c_bald, c_bast, c_lald, c_last, c_aald, c_aals, c_aast, c_alen, c_bnd, c_str, c_bndl, c_bnln, c_sval, c_scod, c_sbal, c_sbln, c_fmt, c_stop, c_iret, c_zret, c_nret, c_aret, c_vret, c_lret, c_cpy, c_callV, c_callS, tkA, lget, lput, lkill, jpush, vsz, jcat, lins, lent, List.length_cons, List.length_nil, List.replicate, List.append_nil, List.cons_append, List.nil_append, reduceIte, Nat.reduceAdd, Nat.reduceSub, Nat.reduceEqDiff, true_and, and_true, Nat.reduceLeDiff, Nat.lt_irrefl, Nat.succ_ne_self, forall_const, ne_eq, not_true_eq_false, not_false_eq_true, false_implies, implies_true, true_implies, true_or, or_true, or_false, false_or, eq_self, Int.reduceEq, Int.reduceLT, Int.reduceLE, Int.reduceNeg, Int.reduceToNat, Int.reduceAdd, Int.reduceSub, Int.reduceMul, Int.reduceNe, and_self, jln69, Int.toNat_natCast]
      refine ⟨fun z => absurd z (by omega), fun _ => ⟨by decide, ⟨by omega, by omega⟩, by decide, ⟨by omega, by omega⟩, ?_⟩⟩
      rw [inc_nat (by omega)]
      refine ih (q + 1) _ (by omega) (hF.sI ⟨rfl, rfl⟩) ?_
      rw [sI_row, hr, hF.i (by omega), ← cp_step, Nat.zero_add]
  simp only [w_MO_copy_0, c_ic, c_lc, c_nul, c_il, c_ll, c_al, c_is, c_ls, c_as, c_inc, c_b2, c_b2n, c_b1, c_d2, c_d2n, c_dsh, c_i2l, c_l2i, c_lcm, c_dup, c_dup2, c_pop, c_j1, c_j2, c_jn, c_sw0, c_sw, c_gI, c_gL, c_gR, c_gS, c_pI, c_pZ, c_pL, c_pR, c_iald, c_ialg, c_iast, c_iasg, c_bald, c_bast, c_lald, c_last, c_aald, c_aals, c_aast, c_alen, c_bnd, c_str, c_bndl, c_bnln, c_sval, c_scod, c_sbal, c_sbln, c_fmt, c_stop, c_iret, c_zret, c_nret, c_aret, c_vret, c_lret, c_cpy, c_callV, c_callS, tkA, lget, lput, lkill, jpush, vsz, jcat, lins, lent, List.length_cons, List.length_nil, List.replicate, List.append_nil, List.cons_append, List.nil_append, reduceIte, Nat.reduceAdd, Nat.reduceSub, Nat.reduceEqDiff, true_and, and_true, Nat.reduceLeDiff, Nat.lt_irrefl, Nat.succ_ne_self, forall_const, ne_eq, not_true_eq_false, not_false_eq_true, false_implies, implies_true, true_implies, true_or, or_true, or_false, false_or, eq_self, Int.reduceEq, Int.reduceLT, Int.reduceLE, Int.reduceNeg, Int.reduceToNat, Int.reduceAdd, Int.reduceSub, Int.reduceMul, Int.reduceNe, and_self]
  exact key 110 0 σ rfl Fr.rf (by rw [cp_0])
def remS (U W : Nat → Int) (a : Nat) : Nat → Int := if a = 40 then cpS W (fun p => if p < 11349 then U (p + 291) else U p) (291 * 39) 291 else cpS W U (291 * a) 291
def SR : jS := fun k j o => (k = 72 ∧ j = 0) ∨ (k = 10 ∧ j = 0 ∧ o = 39)
theorem ok_MO_remember {σ : jM} {Φ : jPh} {d a : Nat} (ha : σ.1 10 0 39 = a) (h40 : a ≤ 40) (h : ∀ τ, Fr SR σ τ → τ.1 72 0 = remS (σ.1 72 0) (σ.1 69 0) a → τ.1 10 0 39 = min 40 ((a : Int) + 1) → Φ none τ) : Ct (d + 1) M_MO_remember [rf 10 0] σ Φ := by
  refine i_MO_remember (Nat.le_succ 1) (fun At h11 h52 => ?_)
  have nS : ∀ o, ¬ SR 69 0 o := by intro o q; unfold SR at q; omega
  have key2 : ∀ (a' : Nat) (g : Nat → Int), a' ≤ 39 → remS (σ.1 72 0) (σ.1 69 0) a = cpS (σ.1 69 0) g (291 * a') 291 → min 40 ((a : Int) + 1) = a' + 1 → ∀ (m q : Nat) (τ : jM), q + m = 291 → Fr SR σ τ → τ.1 72 0 = cpS (σ.1 69 0) g (291 * a') q → τ.1 10 0 39 = a' → At 52 [some (rf 10 0), some (.inl q)] [] τ := by
    intro a' g ha' hg hmin m
    induction m with
    | zero =>
      intro q τ hq hF hr hc
      refine h52 _ _ _ ?_
      simp only [w_MO_remember_52, w_MO_remember_86, c_ic, c_lc, c_nul, c_il, c_ll, c_al, c_is, c_ls, c_as, c_inc, c_b2, c_b2n, c_b1, c_d2, c_d2n, c_dsh, c_i2l, c_l2i, c_lcm, c_dup, c_dup2, c_pop, c_j1, c_j2, c_jn, c_sw0, c_sw, c_gI, c_gL, c_gR, c_gS, c_pI, c_pZ, c_pL, c_pR, c_iald, c_ialg, c_iast, c_iasg, c_bald, c_bast, c_lald, c_last, c_aald, c_aals, c_aast, c_alen, c_bnd, c_str, c_bndl, c_bnln, c_sval, c_scod, c_sbal, c_sbln, c_fmt, c_stop, c_iret, c_zret, c_nret, c_aret, c_vret, c_lret, c_cpy, c_callV, c_callS, tkA, lget, lput, lkill, jpush, vsz, jcat, lins, lent, List.length_cons, List.length_nil, List.replicate, List.append_nil, List.cons_append, List.nil_append, reduceIte, Nat.reduceAdd, Nat.reduceSub, Nat.reduceEqDiff, true_and, and_true, Nat.reduceLeDiff, Nat.lt_irrefl, Nat.succ_ne_self, forall_const, ne_eq, not_true_eq_false, not_false_eq_true, false_implies, implies_true, true_implies, true_or, or_true, or_false, false_or, eq_self, Int.reduceEq, Int.reduceLT, Int.reduceLE, Int.reduceNeg, Int.reduceToNat, Int.reduceAdd, Int.reduceSub, Int.reduceMul, Int.reduceNe, and_self, hc]
      refine ⟨fun _ => h _ (hF.sI (Or.inr ⟨rfl, rfl, rfl⟩)) ?_ ?_, fun z => absurd z (by omega)⟩
      · rw [sI_rne (by decide), hr, hg, show q = 291 by omega]
      · simp only [g_sI, and_self, if_true]
        rw [hmin, wr_id (by omega) (by omega)]
    | succ m ih =>
      intro q τ hq hF hr hc
      refine h52 _ _ _ ?_
      have e1 : wr (wr (291 * (a' : Int)) + q) = ((291 * a' + q : Nat) : Int) := by simp (disch := omega) only [wr_id]; omega
      simp only [w_MO_remember_52, c_ic, c_lc, c_nul, c_il, c_ll, c_al, c_is, c_ls, c_as, c_inc, c_b2, c_b2n, c_b1, c_d2, c_d2n, c_dsh, c_i2l, c_l2i, c_lcm, c_dup, c_dup2, c_pop, c_j1, c_j2, c_jn, c_sw0, c_sw, c_gI, c_gL, c_gR, c_gS, c_pI, c_pZ, c_pL, c_pR, c_iald, c_ialg, c_iast, c_iasg, c_bald, c_bast, c_lald, c_last, c_aald, c_aals, c_aast, c_alen, c_bnd, c_str, c_bndl, c_bnln, c_sval, c_scod, c_sbal, c_sbln, c_fmt, c_stop, c_iret, c_zret, c_nret, c_aret, c_vret, c_lret, c_cpy, c_callV, c_callS, tkA, lget, lput, lkill, jpush, vsz, jcat, lins, lent, List.length_cons, List.length_nil, List.replicate, List.append_nil, List.cons_append, List.nil_append, reduceIte, Nat.reduceAdd, Nat.reduceSub, Nat.reduceEqDiff, true_and, and_true, Nat.reduceLeDiff, Nat.lt_irrefl, Nat.succ_ne_self, forall_const, ne_eq, not_true_eq_false, not_false_eq_true, false_implies, implies_true, true_implies, true_or, or_true, or_false, false_or, eq_self, Int.reduceEq, Int.reduceLT, Int.reduceLE, Int.reduceNeg, Int.reduceToNat, Int.reduceAdd, Int.reduceSub, Int.reduceMul, Int.reduceNe, and_self, jln69, Int.toNat_natCast, hc, e1]
      refine ⟨fun z => absurd z (by omega), fun _ => ⟨by decide, ⟨by omega, by omega⟩, ⟨by omega, by omega⟩, ?_⟩⟩
      rw [inc_nat (by omega)]
      refine ih (q + 1) _ (by omega) (hF.sI (Or.inl ⟨rfl, rfl⟩)) ?_ hc
      rw [sI_row, hr, hF.i (nS q), cp_step]
  have key1 : a = 40 → ∀ (m q : Nat) (τ : jM), q + m = 11349 → Fr SR σ τ → τ.1 72 0 = (fun p => if p < q then σ.1 72 0 (p + 291) else σ.1 72 0 p) → τ.1 10 0 39 = 40 → At 11 [some (rf 10 0), some (.inl q)] [] τ := by
    intro h4 m
    induction m with
    | zero =>
      intro q τ hq hF hr hc
      refine h11 _ _ _ ?_
      simp only [w_MO_remember_11, w_MO_remember_40, w_MO_remember_50, c_ic, c_lc, c_nul, c_il, c_ll, c_al, c_is, c_ls, c_as, c_inc, c_b2, c_b2n, c_b1, c_d2, c_d2n, c_dsh, c_i2l, c_l2i, c_lcm, c_dup, c_dup2, c_pop, c_j1, c_j2, c_jn, c_sw0, c_sw, c_gI, c_gL, c_gR, c_gS, c_pI, c_pZ, c_pL, c_pR, c_iald, c_ialg, c_iast, c_iasg, c_bald, c_bast, c_lald, c_last, c_aald, c_aals, c_aast, c_alen, c_bnd, c_str, c_bndl, c_bnln, c_sval, c_scod, c_sbal, c_sbln, c_fmt, c_stop, c_iret, c_zret, c_nret, c_aret, c_vret, c_lret, c_cpy, c_callV, c_callS, tkA, lget, lput, lkill, jpush, vsz, jcat, lins, lent, List.length_cons, List.length_nil, List.replicate, List.append_nil, List.cons_append, List.nil_append, reduceIte, Nat.reduceAdd, Nat.reduceSub, Nat.reduceEqDiff, true_and, and_true, Nat.reduceLeDiff, Nat.lt_irrefl, Nat.succ_ne_self, forall_const, ne_eq, not_true_eq_false, not_false_eq_true, false_implies, implies_true, true_implies, true_or, or_true, or_false, false_or, eq_self, Int.reduceEq, Int.reduceLT, Int.reduceLE, Int.reduceNeg, Int.reduceToNat, Int.reduceAdd, Int.reduceSub, Int.reduceMul, Int.reduceNe, and_self, hc]
      refine ⟨fun _ => ?_, fun z => absurd z (by omega)⟩
      refine key2 39 (fun p => if p < 11349 then σ.1 72 0 (p + 291) else σ.1 72 0 p) (by decide) (by unfold remS; rw [if_pos h4]) (by omega) 291 0 _ rfl (hF.sI (Or.inr ⟨rfl, rfl, rfl⟩)) ?_ (by simp only [g_sI, and_self, if_true]; decide)
      rw [sI_rne (by decide), hr, cp_0, show q = 11349 by omega]
    | succ m ih =>
      intro q τ hq hF hr hc
      refine h11 _ _ _ ?_
      have e1 : wr ((q : Int) + 291) = ((q + 291 : Nat) : Int) := by simp (disch := omega) only [wr_id]; omega
      simp only [w_MO_remember_11, c_ic, c_lc, c_nul, c_il, c_ll, c_al, c_is, c_ls, c_as, c_inc, c_b2, c_b2n, c_b1, c_d2, c_d2n, c_dsh, c_i2l, c_l2i, c_lcm, c_dup, c_dup2, c_pop, c_j1, c_j2, c_jn, c_sw0, c_sw, c_gI, c_gL, c_gR, c_gS, c_pI, c_pZ, c_pL, c_pR, c_iald, c_ialg, c_iast, c_iasg, c_bald, c_bast, c_lald, c_last, c_aald, c_aals, c_aast, c_alen, c_bnd, c_str, c_bndl, c_bnln, c_sval, c_scod, c_sbal, c_sbln, c_fmt, c_stop, c_iret, c_zret, c_nret, c_aret, c_vret, c_lret, c_cpy, c_callV, c_callS, tkA, lget, lput, lkill, jpush, vsz, jcat, lins, lent, List.length_cons, List.length_nil, List.replicate, List.append_nil, List.cons_append, List.nil_append, reduceIte, Nat.reduceAdd, Nat.reduceSub, Nat.reduceEqDiff, true_and, and_true, Nat.reduceLeDiff, Nat.lt_irrefl, Nat.succ_ne_self, forall_const, ne_eq, not_true_eq_false, not_false_eq_true, false_implies, implies_true, true_implies, true_or, or_true, or_false, false_or, eq_self, Int.reduceEq, Int.reduceLT, Int.reduceLE, Int.reduceNeg, Int.reduceToNat, Int.reduceAdd, Int.reduceSub, Int.reduceMul, Int.reduceNe, and_self, Int.toNat_natCast, e1]
      refine ⟨fun z => absurd z (by omega), fun _ => ⟨⟨by omega, by omega⟩, ⟨by omega, by omega⟩, ?_⟩⟩
      rw [inc_nat (by omega)]
      refine ih (q + 1) _ (by omega) (hF.sI (Or.inl ⟨rfl, rfl⟩)) ?_ hc
      rw [sI_row, hr]
      funext p
      simp only [up_at]
      rw [if_neg (show ¬ q + 291 < q by omega)]
      by_cases z : p = q
      · rw [if_pos z, if_pos (by omega), z]
      · rw [if_neg z]
        by_cases z2 : p < q
        · rw [if_pos z2, if_pos (by omega)]
        · rw [if_neg z2, if_neg (by omega)]
  simp only [w_MO_remember_0, w_MO_remember_50, c_ic, c_lc, c_nul, c_il, c_ll, c_al, c_is, c_ls, c_as, c_inc, c_b2, c_b2n, c_b1, c_d2, c_d2n, c_dsh, c_i2l, c_l2i, c_lcm, c_dup, c_dup2, c_pop, c_j1, c_j2, c_jn, c_sw0, c_sw, c_gI, c_gL, c_gR, c_gS, c_pI, c_pZ, c_pL, c_pR, c_iald, c_ialg, c_iast, c_iasg, c_bald, c_bast, c_lald, c_last, c_aald, c_aals, c_aast, c_alen, c_bnd, c_str, c_bndl, c_bnln, c_sval, c_scod, c_sbal, c_sbln, c_fmt, c_stop, c_iret, c_zret, c_nret, c_aret, c_vret, c_lret, c_cpy, c_callV, c_callS, tkA, lget, lput, lkill, jpush, vsz, jcat, lins, lent, List.length_cons, List.length_nil, List.replicate, List.append_nil, List.cons_append, List.nil_append, reduceIte, Nat.reduceAdd, Nat.reduceSub, Nat.reduceEqDiff, true_and, and_true, Nat.reduceLeDiff, Nat.lt_irrefl, Nat.succ_ne_self, forall_const, ne_eq, not_true_eq_false, not_false_eq_true, false_implies, implies_true, true_implies, true_or, or_true, or_false, false_or, eq_self, Int.reduceEq, Int.reduceLT, Int.reduceLE, Int.reduceNeg, Int.reduceToNat, Int.reduceAdd, Int.reduceSub, Int.reduceMul, Int.reduceNe, and_self, ha]
  refine ⟨fun z => ?_, fun z => ?_⟩
  · exact key2 a (σ.1 72 0) (by omega) (by unfold remS; rw [if_neg (by omega)]) (by omega) 291 0 σ rfl Fr.rf (by rw [cp_0]) ha
  · refine key1 (by omega) 11349 0 σ rfl Fr.rf ?_ (by omega)
    funext p
    rw [if_neg (by omega)]
