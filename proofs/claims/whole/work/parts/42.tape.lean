/-! ===== 42 Tape ===== -/
abbrev rf (k j : Nat) : jV := .inr (.inr (k, some j))
def nbF (T : Nat → Int) : Nat → Nat → Nat
  | 0, a => a
  | m + 1, a => if T a = 32 then nbF T m (a + 1) else a
/-- the next sign that is no blank -/
def nb (T : Nat → Int) (n a : Nat) : Nat := nbF T (n - a) a
def sg (T : Nat → Int) (n a : Nat) : Int := if a < n then T a else -1
theorem nb_end {T : Nat → Int} {n a : Nat} (h : n ≤ a) : nb T n a = a := by
  unfold nb; rw [show n - a = 0 by omega]; rfl
theorem nb_blank {T : Nat → Int} {n a : Nat} (h : a < n) (h2 : T a = 32) : nb T n a = nb T n (a + 1) := by
  unfold nb; rw [show n - a = (n - (a + 1)) + 1 by omega]; simp only [nbF, h2, if_true]
theorem nb_here {T : Nat → Int} {n a : Nat} (h2 : T a ≠ 32) : nb T n a = a := by
  unfold nb
  cases n - a with
  | zero => rfl
  | succ m => simp only [nbF, h2, if_false]
theorem nbF_le (T : Nat → Int) : ∀ m a, a ≤ nbF T m a ∧ nbF T m a ≤ a + m
  | 0, a => ⟨Nat.le_refl _, Nat.le_refl _⟩
  | m + 1, a => by
    unfold nbF
    split
    · have := nbF_le T m (a + 1); omega
    · omega
theorem nb_ge (T : Nat → Int) (n a : Nat) : a ≤ nb T n a := (nbF_le T (n - a) a).1
theorem nb_le {T : Nat → Int} {n a : Nat} (h : a ≤ n) : nb T n a ≤ n := by have := (nbF_le T (n - a) a).2; unfold nb; omega
theorem nbF_no (T : Nat → Int) : ∀ m a, nbF T m a < a + m → T (nbF T m a) ≠ 32
  | 0, a => by unfold nbF; omega
  | m + 1, a => by
    unfold nbF
    split
    · intro h; exact nbF_no T m (a + 1) (by omega)
    · intro _; assumption
theorem nb_no {T : Nat → Int} {n a : Nat} (h : nb T n a < n) (h2 : a ≤ n) : T (nb T n a) ≠ 32 := nbF_no T (n - a) a (by unfold nb at h; omega)
theorem nb_nb {T : Nat → Int} {n a : Nat} (h : a ≤ n) : nb T n (nb T n a) = nb T n a := by
  by_cases hl : nb T n a < n
  · exact nb_here (nb_no hl h)
  · exact nb_end (by omega)
/-- the tape: n signs T, the reader at a, its fault f -/
def TV (σ : jM) (n : Nat) (T : Nat → Int) (a : Nat) (f : Int) : Prop := n ≤ 240 ∧ σ.1 7 0 1 = n ∧ (∀ i, i < n → σ.1 40 0 i = T i) ∧ σ.1 7 0 2 = a ∧ σ.1 7 0 3 = f
def tp (σ : jM) (a f : Int) : jM := sI (sI σ 7 0 2 a) 7 0 3 f
theorem tp_at {σ : jM} {x f : Int} (h : σ.1 7 0 3 = f) : sI σ 7 0 2 x = tp σ x f := by
  unfold tp
  rw [sI_self _ 7 0 3 (by simp only [g_sI, g_sI2, g_sL1, g_sL, g_sL2, g_sR1, g_sR2, g_sR, g_sA, g_sA2, and_false, false_and, and_self, if_false, if_true]; simpa using h)]
theorem tp_tp (σ : jM) (a f a' f' : Int) : tp (tp σ a f) a' f' = tp σ a' f' := by
  unfold tp
  rw [sI_comm (sI σ 7 0 2 a) (k := 7) (j := 0) (o := 3) (k' := 7) (j' := 0) (o' := 2) (by decide), sI_sI, sI_sI]
theorem TV_tp {σ : jM} {n : Nat} {T : Nat → Int} {a a' : Nat} {f f' : Int} (h : TV σ n T a f) : TV (tp σ a' f') n T a' f' := by
  obtain ⟨h1, h2, h3, h4, h5⟩ := h
  refine ⟨h1, ?_, fun i hi => ?_, ?_, ?_⟩ <;> simp only [tp, g_sI, g_sI2, g_sL1, g_sL, g_sL2, g_sR1, g_sR2, g_sR, g_sA, g_sA2, and_false, false_and, and_self, if_false, if_true, Nat.reduceEqDiff]
  · exact h2
  · exact h3 i hi
theorem tp_self {σ : jM} {n : Nat} {T : Nat → Int} {a : Nat} {f : Int} (h : TV σ n T a f) : tp σ a f = σ := by
  unfold tp
  rw [sI_self _ 7 0 2 h.2.2.2.1, sI_self _ 7 0 3 h.2.2.2.2]
theorem ok_TA_sign {σ : jM} {Φ : jPh} {d n a : Nat} {T : Nat → Int} {f : Int} (hv : TV σ n T a f) (h : Φ (some (.inl (sg T n a))) σ) : Ct (d + 1) M_TA_sign [rf 7 0] σ Φ := by
  obtain ⟨h1, h2, h3, h4, h5⟩ := hv
  refine i_TA_sign (Nat.le_refl 1) ?_
  simp only [w_TA_sign_41, w_TA_sign_40, w_TA_sign_0, c_ic, c_lc, c_nul, c_il, c_ll, c_al, c_is, c_ls, c_as, c_inc, c_b2, c_b2n, c_b1, c_d2, c_d2n, c_dsh, c_i2l, c_l2i, c_lcm, c_dup, c_dup2, c_pop, c_j1, c_j2, c_jn, c_sw0, c_sw, c_gI, c_gL, c_gR, c_gS, c_pI, c_pZ, c_pL, c_pR, c_iald, c_ialg, c_iast, c_iasg, c_bald, c_bast, c_lald, c_last, c_aald, c_aals, c_aast, c_alen, c_bnd, c_str, c_bndl, c_bnln, c_sval, c_scod, c_sbal, c_sbln, c_fmt, c_stop, c_iret, c_zret, c_nret, c_aret, c_vret, c_lret, c_cpy, c_callV, c_callS, tkA, lget, lput, lkill, jpush, vsz, jcat, lins, lent, List.length_cons, List.length_nil, List.replicate, List.append_nil, List.cons_append, List.nil_append, reduceIte, Nat.reduceAdd, Nat.reduceSub, Nat.reduceEqDiff, true_and, and_true, Nat.reduceLeDiff, Nat.lt_irrefl, Nat.succ_ne_self, forall_const, ne_eq, not_true_eq_false, not_false_eq_true, false_implies, implies_true, true_implies, true_or, or_true, or_false, false_or, eq_self, Int.reduceEq, Int.reduceLT, Int.reduceLE, Int.reduceNeg, Int.reduceToNat, Int.reduceAdd, Int.reduceSub, Int.reduceMul, Int.reduceNe, and_self, h2, h4]
  unfold sg at h
  refine ⟨fun z => absurd z (by omega), fun _ => ⟨fun z => ?_, fun z => ⟨fun z2 => absurd z2 (by omega), fun _ => ⟨by omega, ?_⟩⟩⟩⟩
  · rwa [if_neg (by omega)] at h
  · rw [if_pos (by omega)] at h
    rwa [Int.toNat_natCast, h3 a (by omega)]
theorem TA_loop {At : Nat → jWp} {σ : jM} {n : Nat} {T : Nat → Int} {d : Nat} {Φ : jPh} (h10 : ∀ ls st τ, w_TA_pass_10 At Φ d ls st τ → At 10 ls st τ) {f : Int} : ∀ (m a : Nat), n - a ≤ m → a ≤ n → TV σ n T a f → Φ none (tp σ (nb T n a) f) → At 10 [some (rf 7 0)] [] σ := by
  intro m
  induction m generalizing σ with
  | zero =>
    intro a hm ha hv h
    refine h10 _ _ _ ?_
    have hv' := hv
    obtain ⟨h1, h2, h3, h4, h5⟩ := hv'
    simp only [w_TA_pass_65, w_TA_pass_10, w_TA_pass_0, c_ic, c_lc, c_nul, c_il, c_ll, c_al, c_is, c_ls, c_as, c_inc, c_b2, c_b2n, c_b1, c_d2, c_d2n, c_dsh, c_i2l, c_l2i, c_lcm, c_dup, c_dup2, c_pop, c_j1, c_j2, c_jn, c_sw0, c_sw, c_gI, c_gL, c_gR, c_gS, c_pI, c_pZ, c_pL, c_pR, c_iald, c_ialg, c_iast, c_iasg, c_bald, c_bast, c_lald, c_last, c_aald, c_aals, c_aast, c_alen, c_bnd, c_str, c_bndl, c_bnln, c_sval, c_scod, c_sbal, c_sbln, c_fmt, c_stop, c_iret, c_zret, c_nret, c_aret, c_vret, c_lret, c_cpy, c_callV, c_callS, tkA, lget, lput, lkill, jpush, vsz, jcat, lins, lent, List.length_cons, List.length_nil, List.replicate, List.append_nil, List.cons_append, List.nil_append, reduceIte, Nat.reduceAdd, Nat.reduceSub, Nat.reduceEqDiff, true_and, and_true, Nat.reduceLeDiff, Nat.lt_irrefl, Nat.succ_ne_self, forall_const, ne_eq, not_true_eq_false, not_false_eq_true, false_implies, implies_true, true_implies, true_or, or_true, or_false, false_or, eq_self, Int.reduceEq, Int.reduceLT, Int.reduceLE, Int.reduceNeg, Int.reduceToNat, Int.reduceAdd, Int.reduceSub, Int.reduceMul, Int.reduceNe, and_self, h2, h4]
    have : Φ none σ := by rw [nb_end (by omega), tp_self hv] at h; exact h
    refine ⟨fun z => absurd z (by omega), fun _ => ⟨fun z => this, fun z => absurd z (by omega)⟩⟩
  | succ m ih =>
    intro a hm ha hv h
    refine h10 _ _ _ ?_
    have hv' := hv
    obtain ⟨h1, h2, h3, h4, h5⟩ := hv'
    simp only [w_TA_pass_65, w_TA_pass_10, w_TA_pass_0, c_ic, c_lc, c_nul, c_il, c_ll, c_al, c_is, c_ls, c_as, c_inc, c_b2, c_b2n, c_b1, c_d2, c_d2n, c_dsh, c_i2l, c_l2i, c_lcm, c_dup, c_dup2, c_pop, c_j1, c_j2, c_jn, c_sw0, c_sw, c_gI, c_gL, c_gR, c_gS, c_pI, c_pZ, c_pL, c_pR, c_iald, c_ialg, c_iast, c_iasg, c_bald, c_bast, c_lald, c_last, c_aald, c_aals, c_aast, c_alen, c_bnd, c_str, c_bndl, c_bnln, c_sval, c_scod, c_sbal, c_sbln, c_fmt, c_stop, c_iret, c_zret, c_nret, c_aret, c_vret, c_lret, c_cpy, c_callV, c_callS, tkA, lget, lput, lkill, jpush, vsz, jcat, lins, lent, List.length_cons, List.length_nil, List.replicate, List.append_nil, List.cons_append, List.nil_append, reduceIte, Nat.reduceAdd, Nat.reduceSub, Nat.reduceEqDiff, true_and, and_true, Nat.reduceLeDiff, Nat.lt_irrefl, Nat.succ_ne_self, forall_const, ne_eq, not_true_eq_false, not_false_eq_true, false_implies, implies_true, true_implies, true_or, or_true, or_false, false_or, eq_self, Int.reduceEq, Int.reduceLT, Int.reduceLE, Int.reduceNeg, Int.reduceToNat, Int.reduceAdd, Int.reduceSub, Int.reduceMul, Int.reduceNe, and_self, h2, h4]
    refine ⟨fun z => absurd z (by omega), fun _ => ⟨fun z => ?_, fun z => ⟨fun z2 => absurd z2 (by omega), fun _ => ⟨by omega, fun z3 => ?_, fun z3 => ?_⟩⟩⟩⟩
    · rw [nb_end (by omega), tp_self hv] at h; exact h
    · rw [Int.toNat_natCast, h3 a (by omega)] at z3
      rw [nb_here z3, tp_self hv] at h; exact h
    · rw [Int.toNat_natCast, h3 a (by omega)] at z3
      rw [show wr ((a : Int) + 1) = ((a + 1 : Nat) : Int) by rw [wr_id (by omega) (by omega)]; omega, tp_at h5]
      refine ih (a + 1) (by omega) (by omega) (TV_tp hv) ?_
      rw [tp_tp, ← nb_blank (by omega) (Classical.not_not.mp z3)]
      exact h
theorem ok_TA_pass {σ : jM} {Φ : jPh} {d n a : Nat} {T : Nat → Int} {f : Int} (hv : TV σ n T a f) (ha : a < n) (h : Φ none (tp σ (nb T n (a + 1)) f)) : Ct (d + 1) M_TA_pass [rf 7 0] σ Φ := by
  refine i_TA_pass (Nat.le_refl 1) (fun At h10 => ?_)
  have hv' := hv
  obtain ⟨h1, h2, h3, h4, h5⟩ := hv'
  simp only [w_TA_pass_65, w_TA_pass_10, w_TA_pass_0, c_ic, c_lc, c_nul, c_il, c_ll, c_al, c_is, c_ls, c_as, c_inc, c_b2, c_b2n, c_b1, c_d2, c_d2n, c_dsh, c_i2l, c_l2i, c_lcm, c_dup, c_dup2, c_pop, c_j1, c_j2, c_jn, c_sw0, c_sw, c_gI, c_gL, c_gR, c_gS, c_pI, c_pZ, c_pL, c_pR, c_iald, c_ialg, c_iast, c_iasg, c_bald, c_bast, c_lald, c_last, c_aald, c_aals, c_aast, c_alen, c_bnd, c_str, c_bndl, c_bnln, c_sval, c_scod, c_sbal, c_sbln, c_fmt, c_stop, c_iret, c_zret, c_nret, c_aret, c_vret, c_lret, c_cpy, c_callV, c_callS, tkA, lget, lput, lkill, jpush, vsz, jcat, lins, lent, List.length_cons, List.length_nil, List.replicate, List.append_nil, List.cons_append, List.nil_append, reduceIte, Nat.reduceAdd, Nat.reduceSub, Nat.reduceEqDiff, true_and, and_true, Nat.reduceLeDiff, Nat.lt_irrefl, Nat.succ_ne_self, forall_const, ne_eq, not_true_eq_false, not_false_eq_true, false_implies, implies_true, true_implies, true_or, or_true, or_false, false_or, eq_self, Int.reduceEq, Int.reduceLT, Int.reduceLE, Int.reduceNeg, Int.reduceToNat, Int.reduceAdd, Int.reduceSub, Int.reduceMul, Int.reduceNe, and_self, h4]
  rw [show wr ((a : Int) + 1) = ((a + 1 : Nat) : Int) by rw [wr_id (by omega) (by omega)]; omega, tp_at h5]
  refine TA_loop h10 n (a + 1) (by omega) (by omega) (TV_tp hv) ?_
  rw [tp_tp]
  exact h
def ff (f p : Int) : Int := if f = -1 then p else f
theorem ok_TA_fail {σ : jM} {Φ : jPh} {d n a : Nat} {T : Nat → Int} {f : Int} (hv : TV σ n T a f) (h : Φ none (tp σ n (ff f a))) : Ct (d + 1) M_TA_fail [rf 7 0] σ Φ := by
  refine i_TA_fail (Nat.le_refl 1) ?_
  have hv' := hv
  obtain ⟨h1, h2, h3, h4, h5⟩ := hv'
  simp only [w_TA_fail_16, w_TA_fail_0, c_ic, c_lc, c_nul, c_il, c_ll, c_al, c_is, c_ls, c_as, c_inc, c_b2, c_b2n, c_b1, c_d2, c_d2n, c_dsh, c_i2l, c_l2i, c_lcm, c_dup, c_dup2, c_pop, c_j1, c_j2, c_jn, c_sw0, c_sw, c_gI, c_gL, c_gR, c_gS, c_pI, c_pZ, c_pL, c_pR, c_iald, c_ialg, c_iast, c_iasg, c_bald, c_bast, c_lald, c_last, c_aald, c_aals, c_aast, c_alen, c_bnd, c_str, c_bndl, c_bnln, c_sval, c_scod, c_sbal, c_sbln, c_fmt, c_stop, c_iret, c_zret, c_nret, c_aret, c_vret, c_lret, c_cpy, c_callV, c_callS, tkA, lget, lput, lkill, jpush, vsz, jcat, lins, lent, List.length_cons, List.length_nil, List.replicate, List.append_nil, List.cons_append, List.nil_append, reduceIte, Nat.reduceAdd, Nat.reduceSub, Nat.reduceEqDiff, true_and, and_true, Nat.reduceLeDiff, Nat.lt_irrefl, Nat.succ_ne_self, forall_const, ne_eq, not_true_eq_false, not_false_eq_true, false_implies, implies_true, true_implies, true_or, or_true, or_false, false_or, eq_self, Int.reduceEq, Int.reduceLT, Int.reduceLE, Int.reduceNeg, Int.reduceToNat, Int.reduceAdd, Int.reduceSub, Int.reduceMul, Int.reduceNe, and_self, h5, h4, h2, g_sI, g_sI2, g_sL1, g_sL, g_sL2, g_sR1, g_sR2, g_sR, g_sA, g_sA2, and_false, false_and, and_self, if_false, if_true, Nat.reduceEqDiff]
  unfold ff at h
  refine ⟨fun z => ?_, fun z => ?_⟩
  · rw [if_neg z] at h
    rw [tp_at h5]
    exact h
  · rw [if_pos (Classical.not_not.mp z)] at h
    rw [sI_comm σ (k := 7) (j := 0) (o := 3) (k' := 7) (j' := 0) (o' := 2) (by decide)]
    exact h
theorem ok_TA_rewind {σ : jM} {Φ : jPh} {d n a : Nat} {T : Nat → Int} {f : Int} (hv : TV σ n T a f) (h : Φ none (tp σ (nb T n 0) (-1))) : Ct (d + 2) M_TA_rewind [rf 7 0] σ Φ := by
  refine i_TA_rewind (Nat.le_refl 1) ?_
  have hv' := hv
  obtain ⟨h1, h2, h3, h4, h5⟩ := hv'
  simp only [w_TA_rewind_0, c_ic, c_lc, c_nul, c_il, c_ll, c_al, c_is, c_ls, c_as, c_inc, c_b2, c_b2n, c_b1, c_d2, c_d2n, c_dsh, c_i2l, c_l2i, c_lcm, c_dup, c_dup2, c_pop, c_j1, c_j2, c_jn, c_sw0, c_sw, c_gI, c_gL, c_gR, c_gS, c_pI, c_pZ, c_pL, c_pR, c_iald, c_ialg, c_iast, c_iasg, c_bald, c_bast, c_lald, c_last, c_aald, c_aals, c_aast, c_alen, c_bnd, c_str, c_bndl, c_bnln, c_sval, c_scod, c_sbal, c_sbln, c_fmt, c_stop, c_iret, c_zret, c_nret, c_aret, c_vret, c_lret, c_cpy, c_callV, c_callS, tkA, lget, lput, lkill, jpush, vsz, jcat, lins, lent, List.length_cons, List.length_nil, List.replicate, List.append_nil, List.cons_append, List.nil_append, reduceIte, Nat.reduceAdd, Nat.reduceSub, Nat.reduceEqDiff, true_and, and_true, Nat.reduceLeDiff, Nat.lt_irrefl, Nat.succ_ne_self, forall_const, ne_eq, not_true_eq_false, not_false_eq_true, false_implies, implies_true, true_implies, true_or, or_true, or_false, false_or, eq_self, Int.reduceEq, Int.reduceLT, Int.reduceLE, Int.reduceNeg, Int.reduceToNat, Int.reduceAdd, Int.reduceSub, Int.reduceMul, Int.reduceNe, and_self]
  refine i_TA_pass (Nat.le_refl 1) (fun At h10 => ?_)
  simp only [w_TA_pass_65, w_TA_pass_10, w_TA_pass_0, c_ic, c_lc, c_nul, c_il, c_ll, c_al, c_is, c_ls, c_as, c_inc, c_b2, c_b2n, c_b1, c_d2, c_d2n, c_dsh, c_i2l, c_l2i, c_lcm, c_dup, c_dup2, c_pop, c_j1, c_j2, c_jn, c_sw0, c_sw, c_gI, c_gL, c_gR, c_gS, c_pI, c_pZ, c_pL, c_pR, c_iald, c_ialg, c_iast, c_iasg, c_bald, c_bast, c_lald, c_last, c_aald, c_aals, c_aast, c_alen, c_bnd, c_str, c_bndl, c_bnln, c_sval, c_scod, c_sbal, c_sbln, c_fmt, c_stop, c_iret, c_zret, c_nret, c_aret, c_vret, c_lret, c_cpy, c_callV, c_callS, tkA, lget, lput, lkill, jpush, vsz, jcat, lins, lent, List.length_cons, List.length_nil, List.replicate, List.append_nil, List.cons_append, List.nil_append, reduceIte, Nat.reduceAdd, Nat.reduceSub, Nat.reduceEqDiff, true_and, and_true, Nat.reduceLeDiff, Nat.lt_irrefl, Nat.succ_ne_self, forall_const, ne_eq, not_true_eq_false, not_false_eq_true, false_implies, implies_true, true_implies, true_or, or_true, or_false, false_or, eq_self, Int.reduceEq, Int.reduceLT, Int.reduceLE, Int.reduceNeg, Int.reduceToNat, Int.reduceAdd, Int.reduceSub, Int.reduceMul, Int.reduceNe, and_self, g_sI, g_sI2, g_sL1, g_sL, g_sL2, g_sR1, g_sR2, g_sR, g_sA, g_sA2, and_false, false_and, and_self, if_false, if_true, Nat.reduceEqDiff]
  rw [show wr 0 = ((0 : Nat) : Int) by decide, sI_sI, sI_comm σ (k := 7) (j := 0) (o := 3) (k' := 7) (j' := 0) (o' := 2) (by decide)]
  refine TA_loop (f := -1) h10 n 0 (by omega) (by omega) (TV_tp hv) ?_
  show Φ none (tp (tp σ _ _) _ _)
  rw [tp_tp]
  exact h
