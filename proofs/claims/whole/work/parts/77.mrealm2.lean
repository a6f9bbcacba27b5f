/-! ===== 77 the model reads a realm: clauses, whether it is whole, all of it; bounds ===== -/
theorem numR_ge {T : Nat → Int} {n dm a b : Nat} {most v : Int} (h : numR T n dm most a = .inr (b, v)) : a ≤ b := by
  unfold numR at h
  split at h
  · split at h
    · cases h
    · split at h
      · cases h
      · cases h
        exact Nat.le_trans (numL_ge T n dm a 0).1 (nb_ge T n _)
  · cases h
theorem pItems_ge {T : Nat → Int} {n li : Nat} {bd : Nat → Int} : ∀ (m a s : Nat) (v : Nat → Int) (q : Nat × (Nat → Int)), pItems T n li bd m a s v = .inr q → a ≤ q.1
  | 0, a, s, v, q, h => by cases h; exact Nat.le_refl a
  | m + 1, a, s, v, q, h => by
    unfold pItems at h
    split at h
    · cases h; exact Nat.le_refl a
    · split at h
      · cases h
      · rename_i q' hq
        have h1 := pItems_ge m _ _ _ q h
        have h2 := numR_ge (b := q'.1) (v := q'.2) hq
        have h3 := nx_gt T n a
        omega
theorem pRcl_ge {T : Nat → Int} {n a : Nat} {s : RS} {q : Nat × RS} (h : pRcl T n s a = .inr q) : a + 1 ≤ q.1 := by
  have hx := nx_gt T n a
  unfold pRcl at h
  split at h
  · split at h
    · cases h
    · rename_i q' hq
      cases h
      have := pItems_ge _ _ _ _ _ hq
      show a + 1 ≤ q'.1
      omega
  · split at h
    · split at h
      · cases h
      · rename_i q' hq
        cases h
        have := pItems_ge _ _ _ _ _ hq
        show a + 1 ≤ q'.1
        omega
    · split at h
      · split at h
        · cases h
        · rename_i q' hq
          cases h
          have := pItems_ge _ _ _ _ _ hq
          show a + 1 ≤ q'.1
          omega
      · cases h
theorem numR_nb {T : Nat → Int} {n dm a b : Nat} {most v : Int} (ha : a ≤ n) (h : numR T n dm most a = .inr (b, v)) : nb T n b = b ∧ b ≤ n := by
  unfold numR at h
  split at h
  · split at h
    · cases h
    · split at h
      · cases h
      · cases h
        have := (numL_ge T n dm a 0).2 ha
        exact ⟨nb_nb this, nb_le this⟩
  · cases h
theorem pItems_nb {T : Nat → Int} {n li : Nat} {bd : Nat → Int} : ∀ (m a s : Nat) (v : Nat → Int) (q : Nat × (Nat → Int)), nb T n a = a ∧ a ≤ n → pItems T n li bd m a s v = .inr q → nb T n q.1 = q.1 ∧ q.1 ≤ n
  | 0, a, s, v, q, ha, h => by cases h; exact ha
  | m + 1, a, s, v, q, ha, h => by
    unfold pItems at h
    split at h
    · cases h; exact ha
    · rename_i hc
      split at h
      · cases h
      · rename_i q' hq
        have hl := sidx_lt (T := T) (n := n) (a := a) (i := li) (by omega)
        exact pItems_nb m _ _ _ q (numR_nb (b := q'.1) (v := q'.2) (nx_le hl) hq) h
theorem pRcl_nb {T : Nat → Int} {n a : Nat} {s : RS} {q : Nat × RS} (h : pRcl T n s a = .inr q) : nb T n q.1 = q.1 ∧ q.1 ≤ n := by
  have hx : ∀ x : Int, sg T n a = x → 0 ≤ x → nb T n (nx T n a) = nx T n a ∧ nx T n a ≤ n := fun x e h0 => ⟨nb_nb (sg_lt e h0), nx_le (sg_lt e h0)⟩
  unfold pRcl at h
  split at h
  · rename_i hc
    split at h
    · cases h
    · rename_i q' hq
      cases h
      exact pItems_nb _ _ _ _ _ (hx 115 hc.1 (by decide)) hq
  · split at h
    · rename_i hc
      split at h
      · cases h
      · rename_i q' hq
        cases h
        exact pItems_nb _ _ _ _ _ (hx 107 hc.1 (by decide)) hq
    · split at h
      · rename_i hc
        split at h
        · cases h
        · rename_i q' hq
          cases h
          exact pItems_nb _ _ _ _ _ (hx 102 hc.1 (by decide)) hq
      · cases h
/-- the model's draft of a realm -/
def RMd (σ : jM) (s : RS) : Prop := s.2.1 ≤ 4 ∧ s.2.2.1 ≤ 8 ∧ σ.1 10 0 28 = s.2.1 ∧ σ.1 10 0 29 = s.2.2.1 ∧ (σ.1 10 0 31 = if s.1 = true then 1 else 0) ∧ σ.1 64 0 0 = s.2.2.2.1 0 ∧ σ.1 64 0 1 = s.2.2.2.1 1 ∧ (∀ o, o < 3 * s.2.1 → σ.1 64 1 o = s.2.2.2.2.1 o) ∧ ∀ o, o < 4 * s.2.2.1 → σ.1 64 2 o = s.2.2.2.2.2 o
theorem RMd.ms {σ : jM} {s : RS} {a f dp : Int} (h : RMd σ s) : RMd (ms σ a f dp) s := h
def SRq : jS := fun k j o => (k = 10 ∧ j = 0 ∧ (o = 28 ∨ o = 29 ∨ o = 31)) ∨ k = 64
def SRr : jS := fun k j o => SRd k j o ∨ (k = 10 ∧ j = 0 ∧ (o = 28 ∨ o = 29 ∨ o = 31)) ∨ k = 64
section MRC
variable {σ : jM} {Φ : jPh} {d n : Nat} {T : Nat → Int} {dp : Int} {s : RS}
theorem ok_MO_readClause {a : Nat} (H : MB σ 0 0 n T) (ha : a ≤ n) (hr : RMd σ s) (h : RcP (fun p => ∀ τ (a' : Int), Fr SRq σ τ → Φ none (ms τ a' p dp)) (fun b s' => ∀ τ, Fr SRq σ τ → RMd τ s' → Φ none (ms τ b (-1) dp) ∧ (b < n → sg T n b ≠ 59 → Φ none (ms τ b b dp))) (pRcl T n s (nb T n a))) : Ct (d + 8) M_MO_readClause [rf 10 0] (ms σ a (-1) dp) Φ := by
  refine i_MO_readClause (Nat.le_add_right 1 2) ?_
  have n240 := H.n240
  have hA := nb_le (T := T) ha
  have hr' := hr
  obtain ⟨h1, h2, h3, h4, h5, h6, h7, h8, h9⟩ := hr'
  simp only [w_MO_readClause_0, c_ic, c_lc, c_nul, c_il, c_ll, c_al, c_is, c_ls, c_as, c_inc, c_b2, c_b2n, c_b1, c_d2, c_d2n, c_dsh, c_i2l, c_l2i, c_lcm, c_dup, c_dup2, c_pop, c_j1, c_j2, c_jn, c_sw0, c_sw, c_gI, c_gL, c_gR, c_gS, c_pI, c_pZ, c_pL, c_pR, c_iald, c_ialg, c_iast, c_iasg, c_bald, c_bast, c_lald, c_last, c_aald, c_aals, c_aast, c_alen, c_bnd, c_str, c_bndl, c_bnln, c_sval, c_scod, c_sbal, c_sbln, c_fmt, c_stop, c_iret, c_zret, c_nret, c_aret, c_vret, c_lret, c_cpy, c_callV, c_callS, tkA, lget, lput, lkill, jpush, vsz, jcat, lins, lent, List.length_cons, List.length_nil, List.replicate, List.append_nil, List.cons_append, List.nil_append, reduceIte, Nat.reduceAdd, Nat.reduceSub, Nat.reduceEqDiff, true_and, and_true, Nat.reduceLeDiff, Nat.lt_irrefl, Nat.succ_ne_self, forall_const, ne_eq, not_true_eq_false, not_false_eq_true, false_implies, implies_true, true_implies, true_or, or_true, or_false, false_or, eq_self, Int.reduceEq, Int.reduceLT, Int.reduceLE, Int.reduceNeg, Int.reduceToNat, Int.reduceAdd, Int.reduceSub, Int.reduceMul, Int.reduceNe, and_self]
  refine ok_MO_look H ha ?_
  generalize nb T n a = A at *
  have m31 : (ms σ A (-1) dp).1 10 0 31 = if s.1 = true then 1 else 0 := h5
  have m28 : (ms σ A (-1) dp).1 10 0 28 = s.2.1 := h3
  have m29 : (ms σ A (-1) dp).1 10 0 29 = s.2.2.1 := h4
  unfold pRcl at h
  have w64 : ∀ (j row len : Nat) {τ υ : jM}, Fr SRq σ τ → Fr (S64 j row len) τ υ → Fr SRq σ υ := fun j row len τ υ f1 f2 => f1.tr (f2.wk (fun k i o q => Or.inr q.1))
  have fail : ∀ x y, RcP (fun p => ∀ τ (a' : Int), Fr SRq σ τ → Φ none (ms τ a' p dp)) (fun b s' => ∀ τ, Fr SRq σ τ → RMd τ s' → Φ none (ms τ b (-1) dp) ∧ (b < n → sg T n b ≠ 59 → Φ none (ms τ b b dp))) (.inl A) → w_MO_readClause_51 Φ (d + 7) [some (rf 10 0), x, y] [] (ms σ A (-1) dp) := by
    intro x y hq
    simp only [w_MO_readClause_51, w_MO_readClause_52, c_ic, c_lc, c_nul, c_il, c_ll, c_al, c_is, c_ls, c_as, c_inc, c_b2, c_b2n, c_b1, c_d2, c_d2n, c_dsh, c_i2l, c_l2i, c_lcm, c_dup, c_dup2, c_pop, c_j1, c_j2, c_jn, c_sw0, c_sw, c_gI, c_gL, c_gR, c_gS, c_pI, c_pZ, c_pL, c_pR, c_iald, c_ialg, c_iast, c_iasg, c_bald, c_bast, c_lald, c_last, c_aald, c_aals, c_aast, c_alen, c_bnd, c_str, c_bndl, c_bnln, c_sval, c_scod, c_sbal, c_sbln, c_fmt, c_stop, c_iret, c_zret, c_nret, c_aret, c_vret, c_lret, c_cpy, c_callV, c_callS, tkA, lget, lput, lkill, jpush, vsz, jcat, lins, lent, List.length_cons, List.length_nil, List.replicate, List.append_nil, List.cons_append, List.nil_append, reduceIte, Nat.reduceAdd, Nat.reduceSub, Nat.reduceEqDiff, true_and, and_true, Nat.reduceLeDiff, Nat.lt_irrefl, Nat.succ_ne_self, forall_const, ne_eq, not_true_eq_false, not_false_eq_true, false_implies, implies_true, true_implies, true_or, or_true, or_false, false_or, eq_self, Int.reduceEq, Int.reduceLT, Int.reduceLE, Int.reduceNeg, Int.reduceToNat, Int.reduceAdd, Int.reduceSub, Int.reduceMul, Int.reduceNe, and_self]
    refine ok_MO_fails ?_
    rw [ff_1]
    simp only [c_ic, c_lc, c_nul, c_il, c_ll, c_al, c_is, c_ls, c_as, c_inc, c_b2, c_b2n, c_b1, c_d2, c_d2n, c_dsh, c_i2l, c_l2i, c_lcm, c_dup, c_dup2, c_pop, c_j1, c_j2, c_jn, c_sw0, c_sw, c_gI, c_gL, c_gR, c_gS, c_pI, c_pZ, c_pL, c_pR, c_iald, c_ialg, c_iast, c_iasg, c_bald, c_bast, c_lald, c_last, c_aald, c_aals, c_aast, c_alen, c_bnd, c_str, c_bndl, c_bnln, c_sval, c_scod, c_sbal, c_sbln, c_fmt, c_stop, c_iret, c_zret, c_nret, c_aret, c_vret, c_lret, c_cpy, c_callV, c_callS, tkA, lget, lput, lkill, jpush, vsz, jcat, lins, lent, List.length_cons, List.length_nil, List.replicate, List.append_nil, List.cons_append, List.nil_append, reduceIte, Nat.reduceAdd, Nat.reduceSub, Nat.reduceEqDiff, true_and, and_true, Nat.reduceLeDiff, Nat.lt_irrefl, Nat.succ_ne_self, forall_const, ne_eq, not_true_eq_false, not_false_eq_true, false_implies, implies_true, true_implies, true_or, or_true, or_false, false_or, eq_self, Int.reduceEq, Int.reduceLT, Int.reduceLE, Int.reduceNeg, Int.reduceToNat, Int.reduceAdd, Int.reduceSub, Int.reduceMul, Int.reduceNe, and_self]
    exact hq σ A Fr.rf
  have g1 : w_MO_readClause_47 Φ (d + 7) [some (rf 10 0), some (.inl (sg T n A)), none] [] (ms σ A (-1) dp) ∨ True := Or.inr trivial
  -- the three kinds
  have k115 : ∀ y, sg T n A = 115 → s.1 = false → w_MO_readClause_47 Φ (d + 7) [some (rf 10 0), some (.inl (sg T n A)), y] [] (ms σ A (-1) dp) := by
    intro y z zb
    rw [if_pos ⟨z, zb⟩] at h
    have hl := sg_lt z (by decide)
    rw [z]
    simp only [w_MO_readClause_47, w_MO_readClause_52, w_MO_readClause_63, c_ic, c_lc, c_nul, c_il, c_ll, c_al, c_is, c_ls, c_as, c_inc, c_b2, c_b2n, c_b1, c_d2, c_d2n, c_dsh, c_i2l, c_l2i, c_lcm, c_dup, c_dup2, c_pop, c_j1, c_j2, c_jn, c_sw0, c_sw, c_gI, c_gL, c_gR, c_gS, c_pI, c_pZ, c_pL, c_pR, c_iald, c_ialg, c_iast, c_iasg, c_bald, c_bast, c_lald, c_last, c_aald, c_aals, c_aast, c_alen, c_bnd, c_str, c_bndl, c_bnln, c_sval, c_scod, c_sbal, c_sbln, c_fmt, c_stop, c_iret, c_zret, c_nret, c_aret, c_vret, c_lret, c_cpy, c_callV, c_callS, tkA, lget, lput, lkill, jpush, vsz, jcat, lins, lent, List.length_cons, List.length_nil, List.replicate, List.append_nil, List.cons_append, List.nil_append, reduceIte, Nat.reduceAdd, Nat.reduceSub, Nat.reduceEqDiff, true_and, and_true, Nat.reduceLeDiff, Nat.lt_irrefl, Nat.succ_ne_self, forall_const, ne_eq, not_true_eq_false, not_false_eq_true, false_implies, implies_true, true_implies, true_or, or_true, or_false, false_or, eq_self, Int.reduceEq, Int.reduceLT, Int.reduceLE, Int.reduceNeg, Int.reduceToNat, Int.reduceAdd, Int.reduceSub, Int.reduceMul, Int.reduceNe, and_self, ms_10, ms_s10, inc_nat (show A ≤ 100000 by omega), ms_so (show 10 ≠ 10 ∨ (31 ≠ 10 ∧ 31 ≠ 11 ∧ 31 ≠ 12) by decide)]
    have hF1 : Fr SRq σ (sI σ 10 0 31 1) := Fr.rf.sI (Or.inl ⟨rfl, rfl, by decide⟩)
    have H1 : MB (sI σ 10 0 31 1) 0 0 n T := H.fr (S := fun k _ o => k = 10 ∧ o = 31) (Fr.rf.sI ⟨rfl, rfl⟩) (fun o q y => by omega) (fun o y => by omega)
    refine ok_MO_readItems (li := 0) (row := 0) H1 (by omega) (by decide) (by decide) (by decide) ?_
    rw [show slen 0 = 2 by decide, show nb T n (A + 1) = nx T n A from rfl]
    cases he : pItems T n 0 (jbnd 0) 2 (nx T n A) 0 (dfl 0) with
    | inl p =>
      rw [he] at h
      intro τ a' t1
      simp only [w_MO_readClause_166, c_ic, c_lc, c_nul, c_il, c_ll, c_al, c_is, c_ls, c_as, c_inc, c_b2, c_b2n, c_b1, c_d2, c_d2n, c_dsh, c_i2l, c_l2i, c_lcm, c_dup, c_dup2, c_pop, c_j1, c_j2, c_jn, c_sw0, c_sw, c_gI, c_gL, c_gR, c_gS, c_pI, c_pZ, c_pL, c_pR, c_iald, c_ialg, c_iast, c_iasg, c_bald, c_bast, c_lald, c_last, c_aald, c_aals, c_aast, c_alen, c_bnd, c_str, c_bndl, c_bnln, c_sval, c_scod, c_sbal, c_sbln, c_fmt, c_stop, c_iret, c_zret, c_nret, c_aret, c_vret, c_lret, c_cpy, c_callV, c_callS, tkA, lget, lput, lkill, jpush, vsz, jcat, lins, lent, List.length_cons, List.length_nil, List.replicate, List.append_nil, List.cons_append, List.nil_append, reduceIte, Nat.reduceAdd, Nat.reduceSub, Nat.reduceEqDiff, true_and, and_true, Nat.reduceLeDiff, Nat.lt_irrefl, Nat.succ_ne_self, forall_const, ne_eq, not_true_eq_false, not_false_eq_true, false_implies, implies_true, true_implies, true_or, or_true, or_false, false_or, eq_self, Int.reduceEq, Int.reduceLT, Int.reduceLE, Int.reduceNeg, Int.reduceToNat, Int.reduceAdd, Int.reduceSub, Int.reduceMul, Int.reduceNe, and_self]
      exact h τ a' (w64 _ _ _ hF1 t1)
    | inr q =>
      rw [he] at h
      intro τ t1 t2
      simp only [w_MO_readClause_166, c_ic, c_lc, c_nul, c_il, c_ll, c_al, c_is, c_ls, c_as, c_inc, c_b2, c_b2n, c_b1, c_d2, c_d2n, c_dsh, c_i2l, c_l2i, c_lcm, c_dup, c_dup2, c_pop, c_j1, c_j2, c_jn, c_sw0, c_sw, c_gI, c_gL, c_gR, c_gS, c_pI, c_pZ, c_pL, c_pR, c_iald, c_ialg, c_iast, c_iasg, c_bald, c_bast, c_lald, c_last, c_aald, c_aals, c_aast, c_alen, c_bnd, c_str, c_bndl, c_bnln, c_sval, c_scod, c_sbal, c_sbln, c_fmt, c_stop, c_iret, c_zret, c_nret, c_aret, c_vret, c_lret, c_cpy, c_callV, c_callS, tkA, lget, lput, lkill, jpush, vsz, jcat, lins, lent, List.length_cons, List.length_nil, List.replicate, List.append_nil, List.cons_append, List.nil_append, reduceIte, Nat.reduceAdd, Nat.reduceSub, Nat.reduceEqDiff, true_and, and_true, Nat.reduceLeDiff, Nat.lt_irrefl, Nat.succ_ne_self, forall_const, ne_eq, not_true_eq_false, not_false_eq_true, false_implies, implies_true, true_implies, true_or, or_true, or_false, false_or, eq_self, Int.reduceEq, Int.reduceLT, Int.reduceLE, Int.reduceNeg, Int.reduceToNat, Int.reduceAdd, Int.reduceSub, Int.reduceMul, Int.reduceNe, and_self]
      refine h τ (w64 _ _ _ hF1 t1) ?_
      have n10 : ∀ o, ¬ S64 0 0 2 10 0 o := fun o q => by unfold S64 at q; omega
      refine ⟨h1, h2, by rw [t1.i (n10 28)]; exact h3, by rw [t1.i (n10 29)]; exact h4, by rw [t1.i (n10 31)]; rfl, t2 0 (by decide), t2 1 (by decide), fun o ho => ?_, fun o ho => ?_⟩
      · rw [t1.i (by unfold S64; omega)]; exact h8 o ho
      · rw [t1.i (by unfold S64; omega)]; exact h9 o ho
  have k107 : ∀ y, sg T n A = 107 → s.2.1 < 4 → w_MO_readClause_47 Φ (d + 7) [some (rf 10 0), some (.inl (sg T n A)), y] [] (ms σ A (-1) dp) := by
    intro y z zb
    rw [if_neg (by omega), if_pos ⟨z, zb⟩] at h
    have hl := sg_lt z (by decide)
    have e1 : wr ((s.2.1 : Int) + 1) = ((s.2.1 + 1 : Nat) : Int) := by rw [wr_id (by omega) (by omega)]; omega
    have e2 : wr (3 * wr (((s.2.1 + 1 : Nat) : Int) - 1)) = ((3 * s.2.1 : Nat) : Int) := by simp (disch := omega) only [wr_id]; omega
    have m28' : (ms σ (A + 1 : Nat) (-1) dp).1 10 0 28 = s.2.1 := h3
    rw [z]
    simp only [w_MO_readClause_47, w_MO_readClause_52, w_MO_readClause_63, w_MO_readClause_99, c_ic, c_lc, c_nul, c_il, c_ll, c_al, c_is, c_ls, c_as, c_inc, c_b2, c_b2n, c_b1, c_d2, c_d2n, c_dsh, c_i2l, c_l2i, c_lcm, c_dup, c_dup2, c_pop, c_j1, c_j2, c_jn, c_sw0, c_sw, c_gI, c_gL, c_gR, c_gS, c_pI, c_pZ, c_pL, c_pR, c_iald, c_ialg, c_iast, c_iasg, c_bald, c_bast, c_lald, c_last, c_aald, c_aals, c_aast, c_alen, c_bnd, c_str, c_bndl, c_bnln, c_sval, c_scod, c_sbal, c_sbln, c_fmt, c_stop, c_iret, c_zret, c_nret, c_aret, c_vret, c_lret, c_cpy, c_callV, c_callS, tkA, lget, lput, lkill, jpush, vsz, jcat, lins, lent, List.length_cons, List.length_nil, List.replicate, List.append_nil, List.cons_append, List.nil_append, reduceIte, Nat.reduceAdd, Nat.reduceSub, Nat.reduceEqDiff, true_and, and_true, Nat.reduceLeDiff, Nat.lt_irrefl, Nat.succ_ne_self, forall_const, ne_eq, not_true_eq_false, not_false_eq_true, false_implies, implies_true, true_implies, true_or, or_true, or_false, false_or, eq_self, Int.reduceEq, Int.reduceLT, Int.reduceLE, Int.reduceNeg, Int.reduceToNat, Int.reduceAdd, Int.reduceSub, Int.reduceMul, Int.reduceNe, and_self, ms_10, ms_s10, inc_nat (show A ≤ 100000 by omega), m28', e1, ms_so (show 10 ≠ 10 ∨ (28 ≠ 10 ∧ 28 ≠ 11 ∧ 28 ≠ 12) by decide)]
    have m28'' : (ms (sI σ 10 0 28 (s.2.1 + 1 : Nat)) (A + 1 : Nat) (-1) dp).1 10 0 28 = ((s.2.1 + 1 : Nat) : Int) := rfl
    simp only [m28'', e2]
    have hF1 : Fr SRq σ (sI σ 10 0 28 (s.2.1 + 1 : Nat)) := Fr.rf.sI (Or.inl ⟨rfl, rfl, by decide⟩)
    have H1 : MB (sI σ 10 0 28 (s.2.1 + 1 : Nat)) 0 0 n T := H.fr (S := fun k _ o => k = 10 ∧ o = 28) (Fr.rf.sI ⟨rfl, rfl⟩) (fun o q y => by omega) (fun o y => by omega)
    refine ok_MO_readItems (li := 1) (row := 3 * s.2.1) H1 (by omega) (by decide) (show 3 * s.2.1 + 3 ≤ 12 by omega) (by decide) ?_
    rw [show slen 1 = 3 by decide, show nb T n (A + 1) = nx T n A from rfl]
    cases he : pItems T n 1 (jbnd 1) 3 (nx T n A) 0 (dfl 1) with
    | inl p =>
      rw [he] at h
      intro τ a' t1
      simp only [w_MO_readClause_166, c_ic, c_lc, c_nul, c_il, c_ll, c_al, c_is, c_ls, c_as, c_inc, c_b2, c_b2n, c_b1, c_d2, c_d2n, c_dsh, c_i2l, c_l2i, c_lcm, c_dup, c_dup2, c_pop, c_j1, c_j2, c_jn, c_sw0, c_sw, c_gI, c_gL, c_gR, c_gS, c_pI, c_pZ, c_pL, c_pR, c_iald, c_ialg, c_iast, c_iasg, c_bald, c_bast, c_lald, c_last, c_aald, c_aals, c_aast, c_alen, c_bnd, c_str, c_bndl, c_bnln, c_sval, c_scod, c_sbal, c_sbln, c_fmt, c_stop, c_iret, c_zret, c_nret, c_aret, c_vret, c_lret, c_cpy, c_callV, c_callS, tkA, lget, lput, lkill, jpush, vsz, jcat, lins, lent, List.length_cons, List.length_nil, List.replicate, List.append_nil, List.cons_append, List.nil_append, reduceIte, Nat.reduceAdd, Nat.reduceSub, Nat.reduceEqDiff, true_and, and_true, Nat.reduceLeDiff, Nat.lt_irrefl, Nat.succ_ne_self, forall_const, ne_eq, not_true_eq_false, not_false_eq_true, false_implies, implies_true, true_implies, true_or, or_true, or_false, false_or, eq_self, Int.reduceEq, Int.reduceLT, Int.reduceLE, Int.reduceNeg, Int.reduceToNat, Int.reduceAdd, Int.reduceSub, Int.reduceMul, Int.reduceNe, and_self]
      exact h τ a' (w64 _ _ _ hF1 t1)
    | inr q =>
      rw [he] at h
      intro τ t1 t2
      simp only [w_MO_readClause_166, c_ic, c_lc, c_nul, c_il, c_ll, c_al, c_is, c_ls, c_as, c_inc, c_b2, c_b2n, c_b1, c_d2, c_d2n, c_dsh, c_i2l, c_l2i, c_lcm, c_dup, c_dup2, c_pop, c_j1, c_j2, c_jn, c_sw0, c_sw, c_gI, c_gL, c_gR, c_gS, c_pI, c_pZ, c_pL, c_pR, c_iald, c_ialg, c_iast, c_iasg, c_bald, c_bast, c_lald, c_last, c_aald, c_aals, c_aast, c_alen, c_bnd, c_str, c_bndl, c_bnln, c_sval, c_scod, c_sbal, c_sbln, c_fmt, c_stop, c_iret, c_zret, c_nret, c_aret, c_vret, c_lret, c_cpy, c_callV, c_callS, tkA, lget, lput, lkill, jpush, vsz, jcat, lins, lent, List.length_cons, List.length_nil, List.replicate, List.append_nil, List.cons_append, List.nil_append, reduceIte, Nat.reduceAdd, Nat.reduceSub, Nat.reduceEqDiff, true_and, and_true, Nat.reduceLeDiff, Nat.lt_irrefl, Nat.succ_ne_self, forall_const, ne_eq, not_true_eq_false, not_false_eq_true, false_implies, implies_true, true_implies, true_or, or_true, or_false, false_or, eq_self, Int.reduceEq, Int.reduceLT, Int.reduceLE, Int.reduceNeg, Int.reduceToNat, Int.reduceAdd, Int.reduceSub, Int.reduceMul, Int.reduceNe, and_self]
      refine h τ (w64 _ _ _ hF1 t1) ?_
      have n10 : ∀ o, ¬ S64 1 (3 * s.2.1) 3 10 0 o := fun o q => by unfold S64 at q; omega
      refine ⟨by show s.2.1 + 1 ≤ 4; omega, h2, by rw [t1.i (n10 28)]; rfl, by rw [t1.i (n10 29)]; exact h4, by rw [t1.i (n10 31)]; exact h5, ?_, ?_, fun o ho => ?_, fun o ho => ?_⟩
      · rw [t1.i (by unfold S64; omega)]; exact h6
      · rw [t1.i (by unfold S64; omega)]; exact h7
      · have ho : o < 3 * (s.2.1 + 1) := ho
        by_cases z2 : 3 * s.2.1 ≤ o
        · obtain ⟨i, rfl⟩ := Nat.exists_eq_add_of_le z2
          show τ.1 64 1 _ = cpS q.2 s.2.2.2.2.1 (3 * s.2.1) 3 _
          rw [t2 i (by omega), cp_in (by omega)]
        · show τ.1 64 1 _ = cpS q.2 s.2.2.2.2.1 (3 * s.2.1) 3 _
          rw [t1.i (by unfold S64; omega), cp_out (by omega)]; exact h8 o (by omega)
      · rw [t1.i (by unfold S64; omega)]; exact h9 o ho
  have k102 : ∀ y, sg T n A = 102 → s.2.2.1 < 8 → w_MO_readClause_47 Φ (d + 7) [some (rf 10 0), some (.inl (sg T n A)), y] [] (ms σ A (-1) dp) := by
    intro y z zb
    rw [if_neg (by omega), if_neg (by omega), if_pos ⟨z, zb⟩] at h
    have hl := sg_lt z (by decide)
    have e1 : wr ((s.2.2.1 : Int) + 1) = ((s.2.2.1 + 1 : Nat) : Int) := by rw [wr_id (by omega) (by omega)]; omega
    have e2 : wr (4 * wr (((s.2.2.1 + 1 : Nat) : Int) - 1)) = ((4 * s.2.2.1 : Nat) : Int) := by simp (disch := omega) only [wr_id]; omega
    have m29' : (ms σ (A + 1 : Nat) (-1) dp).1 10 0 29 = s.2.2.1 := h4
    rw [z]
    simp only [w_MO_readClause_47, w_MO_readClause_52, w_MO_readClause_63, w_MO_readClause_99, w_MO_readClause_137, c_ic, c_lc, c_nul, c_il, c_ll, c_al, c_is, c_ls, c_as, c_inc, c_b2, c_b2n, c_b1, c_d2, c_d2n, c_dsh, c_i2l, c_l2i, c_lcm, c_dup, c_dup2, c_pop, c_j1, c_j2, c_jn, c_sw0, c_sw, c_gI, c_gL, c_gR, c_gS, c_pI, c_pZ, c_pL, c_pR, c_iald, c_ialg, c_iast, c_iasg, c_bald, c_bast, c_lald, c_last, c_aald, c_aals, c_aast, c_alen, c_bnd, c_str, c_bndl, c_bnln, c_sval, c_scod, c_sbal, c_sbln, c_fmt, c_stop, c_iret, c_zret, c_nret, c_aret, c_vret, c_lret, c_cpy, c_callV, c_callS, tkA, lget, lput, lkill, jpush, vsz, jcat, lins, lent, List.length_cons, List.length_nil, List.replicate, List.append_nil, List.cons_append, List.nil_append, reduceIte, Nat.reduceAdd, Nat.reduceSub, Nat.reduceEqDiff, true_and, and_true, Nat.reduceLeDiff, Nat.lt_irrefl, Nat.succ_ne_self, forall_const, ne_eq, not_true_eq_false, not_false_eq_true, false_implies, implies_true, true_implies, true_or, or_true, or_false, false_or, eq_self, Int.reduceEq, Int.reduceLT, Int.reduceLE, Int.reduceNeg, Int.reduceToNat, Int.reduceAdd, Int.reduceSub, Int.reduceMul, Int.reduceNe, and_self, ms_10, ms_s10, inc_nat (show A ≤ 100000 by omega), m29', e1, ms_so (show 10 ≠ 10 ∨ (29 ≠ 10 ∧ 29 ≠ 11 ∧ 29 ≠ 12) by decide)]
    have m29'' : (ms (sI σ 10 0 29 (s.2.2.1 + 1 : Nat)) (A + 1 : Nat) (-1) dp).1 10 0 29 = ((s.2.2.1 + 1 : Nat) : Int) := rfl
    simp only [m29'', e2]
    have hF1 : Fr SRq σ (sI σ 10 0 29 (s.2.2.1 + 1 : Nat)) := Fr.rf.sI (Or.inl ⟨rfl, rfl, by decide⟩)
    have H1 : MB (sI σ 10 0 29 (s.2.2.1 + 1 : Nat)) 0 0 n T := H.fr (S := fun k _ o => k = 10 ∧ o = 29) (Fr.rf.sI ⟨rfl, rfl⟩) (fun o q y => by omega) (fun o y => by omega)
    refine ok_MO_readItems (li := 2) (row := 4 * s.2.2.1) H1 (by omega) (by decide) (show 4 * s.2.2.1 + 4 ≤ 32 by omega) (by decide) ?_
    rw [show slen 2 = 4 by decide, show nb T n (A + 1) = nx T n A from rfl]
    cases he : pItems T n 2 (jbnd 2) 4 (nx T n A) 0 (dfl 2) with
    | inl p =>
      rw [he] at h
      intro τ a' t1
      simp only [w_MO_readClause_166, c_ic, c_lc, c_nul, c_il, c_ll, c_al, c_is, c_ls, c_as, c_inc, c_b2, c_b2n, c_b1, c_d2, c_d2n, c_dsh, c_i2l, c_l2i, c_lcm, c_dup, c_dup2, c_pop, c_j1, c_j2, c_jn, c_sw0, c_sw, c_gI, c_gL, c_gR, c_gS, c_pI, c_pZ, c_pL, c_pR, c_iald, c_ialg, c_iast, c_iasg, c_bald, c_bast, c_lald, c_last, c_aald, c_aals, c_aast, c_alen, c_bnd, c_str, c_bndl, c_bnln, c_sval, c_scod, c_sbal, c_sbln, c_fmt, c_stop, c_iret, c_zret, c_nret, c_aret, c_vret, c_lret, c_cpy, c_callV, c_callS, tkA, lget, lput, lkill, jpush, vsz, jcat, lins, lent, List.length_cons, List.length_nil, List.replicate, List.append_nil, List.cons_append, List.nil_append, reduceIte, Nat.reduceAdd, Nat.reduceSub, Nat.reduceEqDiff, true_and, and_true, Nat.reduceLeDiff, Nat.lt_irrefl, Nat.succ_ne_self, forall_const, ne_eq, not_true_eq_false, not_false_eq_true, false_implies, implies_true, true_implies, true_or, or_true, or_false, false_or, eq_self, Int.reduceEq, Int.reduceLT, Int.reduceLE, Int.reduceNeg, Int.reduceToNat, Int.reduceAdd, Int.reduceSub, Int.reduceMul, Int.reduceNe, and_self]
      exact h τ a' (w64 _ _ _ hF1 t1)
    | inr q =>
      rw [he] at h
      intro τ t1 t2
      simp only [w_MO_readClause_166, c_ic, c_lc, c_nul, c_il, c_ll, c_al, c_is, c_ls, c_as, c_inc, c_b2, c_b2n, c_b1, c_d2, c_d2n, c_dsh, c_i2l, c_l2i, c_lcm, c_dup, c_dup2, c_pop, c_j1, c_j2, c_jn, c_sw0, c_sw, c_gI, c_gL, c_gR, c_gS, c_pI, c_pZ, c_pL, c_pR, c_iald, c_ialg, c_iast, c_iasg, c_bald, c_bast, c_lald, c_last, c_aald, c_aals, c_aast, c_alen, c_bnd, c_str, c_bndl, c_bnln, c_sval, c_scod, c_sbal, c_sbln, c_fmt, c_stop, c_iret, c_zret, c_nret, c_aret, c_vret, c_lret, c_cpy, c_callV, c_callS, tkA, lget, lput, lkill, jpush, vsz, jcat, lins, lent, List.length_cons, List.length_nil, List.replicate, List.append_nil, List.cons_append, List.nil_append, reduceIte, Nat.reduceAdd, Nat.reduceSub, Nat.reduceEqDiff, true_and, and_true, Nat.reduceLeDiff, Nat.lt_irrefl, Nat.succ_ne_self, forall_const, ne_eq, not_true_eq_false, not_false_eq_true, false_implies, implies_true, true_implies, true_or, or_true, or_false, false_or, eq_self, Int.reduceEq, Int.reduceLT, Int.reduceLE, Int.reduceNeg, Int.reduceToNat, Int.reduceAdd, Int.reduceSub, Int.reduceMul, Int.reduceNe, and_self]
      refine h τ (w64 _ _ _ hF1 t1) ?_
      have n10 : ∀ o, ¬ S64 2 (4 * s.2.2.1) 4 10 0 o := fun o q => by unfold S64 at q; omega
      refine ⟨h1, by show s.2.2.1 + 1 ≤ 8; omega, by rw [t1.i (n10 28)]; exact h3, by rw [t1.i (n10 29)]; rfl, by rw [t1.i (n10 31)]; exact h5, ?_, ?_, fun o ho => ?_, fun o ho => ?_⟩
      · rw [t1.i (by unfold S64; omega)]; exact h6
      · rw [t1.i (by unfold S64; omega)]; exact h7
      · rw [t1.i (by unfold S64; omega)]; exact h8 o ho
      · have ho : o < 4 * (s.2.2.1 + 1) := ho
        by_cases z2 : 4 * s.2.2.1 ≤ o
        · obtain ⟨i, rfl⟩ := Nat.exists_eq_add_of_le z2
          show τ.1 64 2 _ = cpS q.2 s.2.2.2.2.2 (4 * s.2.2.1) 4 _
          rw [t2 i (by omega), cp_in (by omega)]
        · show τ.1 64 2 _ = cpS q.2 s.2.2.2.2.2 (4 * s.2.2.1) 4 _
          rw [t1.i (by unfold S64; omega), cp_out (by omega)]; exact h9 o (by omega)
  have c32 : ∀ y, ¬ (sg T n A = 115 ∧ s.1 = false) → ¬ (sg T n A = 107 ∧ s.2.1 < 4) → w_MO_readClause_32 Φ (d + 7) [some (rf 10 0), some (.inl (sg T n A)), y] [] (ms σ A (-1) dp) := by
    intro y n1 n2
    simp only [w_MO_readClause_32, c_ic, c_lc, c_nul, c_il, c_ll, c_al, c_is, c_ls, c_as, c_inc, c_b2, c_b2n, c_b1, c_d2, c_d2n, c_dsh, c_i2l, c_l2i, c_lcm, c_dup, c_dup2, c_pop, c_j1, c_j2, c_jn, c_sw0, c_sw, c_gI, c_gL, c_gR, c_gS, c_pI, c_pZ, c_pL, c_pR, c_iald, c_ialg, c_iast, c_iasg, c_bald, c_bast, c_lald, c_last, c_aald, c_aals, c_aast, c_alen, c_bnd, c_str, c_bndl, c_bnln, c_sval, c_scod, c_sbal, c_sbln, c_fmt, c_stop, c_iret, c_zret, c_nret, c_aret, c_vret, c_lret, c_cpy, c_callV, c_callS, tkA, lget, lput, lkill, jpush, vsz, jcat, lins, lent, List.length_cons, List.length_nil, List.replicate, List.append_nil, List.cons_append, List.nil_append, reduceIte, Nat.reduceAdd, Nat.reduceSub, Nat.reduceEqDiff, true_and, and_true, Nat.reduceLeDiff, Nat.lt_irrefl, Nat.succ_ne_self, forall_const, ne_eq, not_true_eq_false, not_false_eq_true, false_implies, implies_true, true_implies, true_or, or_true, or_false, false_or, eq_self, Int.reduceEq, Int.reduceLT, Int.reduceLE, Int.reduceNeg, Int.reduceToNat, Int.reduceAdd, Int.reduceSub, Int.reduceMul, Int.reduceNe, and_self, m29]
    refine ⟨fun z => ?_, fun z => ⟨fun z2 => ?_, fun z2 => ?_⟩⟩
    · rw [if_neg n1, if_neg n2, if_neg (fun q => z q.1)] at h
      exact fail _ _ h
    · rw [if_neg n1, if_neg n2, if_neg (by omega)] at h
      exact fail _ _ h
    · exact k102 y (Classical.not_not.mp z) (by omega)
  have c18 : ∀ y, ¬ (sg T n A = 115 ∧ s.1 = false) → w_MO_readClause_18 Φ (d + 7) [some (rf 10 0), some (.inl (sg T n A)), y] [] (ms σ A (-1) dp) := by
    intro y n1
    simp only [w_MO_readClause_18, c_ic, c_lc, c_nul, c_il, c_ll, c_al, c_is, c_ls, c_as, c_inc, c_b2, c_b2n, c_b1, c_d2, c_d2n, c_dsh, c_i2l, c_l2i, c_lcm, c_dup, c_dup2, c_pop, c_j1, c_j2, c_jn, c_sw0, c_sw, c_gI, c_gL, c_gR, c_gS, c_pI, c_pZ, c_pL, c_pR, c_iald, c_ialg, c_iast, c_iasg, c_bald, c_bast, c_lald, c_last, c_aald, c_aals, c_aast, c_alen, c_bnd, c_str, c_bndl, c_bnln, c_sval, c_scod, c_sbal, c_sbln, c_fmt, c_stop, c_iret, c_zret, c_nret, c_aret, c_vret, c_lret, c_cpy, c_callV, c_callS, tkA, lget, lput, lkill, jpush, vsz, jcat, lins, lent, List.length_cons, List.length_nil, List.replicate, List.append_nil, List.cons_append, List.nil_append, reduceIte, Nat.reduceAdd, Nat.reduceSub, Nat.reduceEqDiff, true_and, and_true, Nat.reduceLeDiff, Nat.lt_irrefl, Nat.succ_ne_self, forall_const, ne_eq, not_true_eq_false, not_false_eq_true, false_implies, implies_true, true_implies, true_or, or_true, or_false, false_or, eq_self, Int.reduceEq, Int.reduceLT, Int.reduceLE, Int.reduceNeg, Int.reduceToNat, Int.reduceAdd, Int.reduceSub, Int.reduceMul, Int.reduceNe, and_self, m28]
    refine ⟨fun z => c32 y n1 (fun q => z q.1), fun z => ⟨fun z2 => k107 y (Classical.not_not.mp z) (by omega), fun z2 => c32 y n1 (by omega)⟩⟩
  simp only [c_ic, c_lc, c_nul, c_il, c_ll, c_al, c_is, c_ls, c_as, c_inc, c_b2, c_b2n, c_b1, c_d2, c_d2n, c_dsh, c_i2l, c_l2i, c_lcm, c_dup, c_dup2, c_pop, c_j1, c_j2, c_jn, c_sw0, c_sw, c_gI, c_gL, c_gR, c_gS, c_pI, c_pZ, c_pL, c_pR, c_iald, c_ialg, c_iast, c_iasg, c_bald, c_bast, c_lald, c_last, c_aald, c_aals, c_aast, c_alen, c_bnd, c_str, c_bndl, c_bnln, c_sval, c_scod, c_sbal, c_sbln, c_fmt, c_stop, c_iret, c_zret, c_nret, c_aret, c_vret, c_lret, c_cpy, c_callV, c_callS, tkA, lget, lput, lkill, jpush, vsz, jcat, lins, lent, List.length_cons, List.length_nil, List.replicate, List.append_nil, List.cons_append, List.nil_append, reduceIte, Nat.reduceAdd, Nat.reduceSub, Nat.reduceEqDiff, true_and, and_true, Nat.reduceLeDiff, Nat.lt_irrefl, Nat.succ_ne_self, forall_const, ne_eq, not_true_eq_false, not_false_eq_true, false_implies, implies_true, true_implies, true_or, or_true, or_false, false_or, eq_self, Int.reduceEq, Int.reduceLT, Int.reduceLE, Int.reduceNeg, Int.reduceToNat, Int.reduceAdd, Int.reduceSub, Int.reduceMul, Int.reduceNe, and_self, m31]
  refine ⟨fun z => c18 none (fun q => z q.1), fun z => ⟨fun z2 => ?_, fun z2 => ?_⟩⟩
  · refine k115 none (Classical.not_not.mp z) ?_
    cases hb : s.1 with
    | false => rfl
    | true => rw [hb] at z2; simp at z2
  · refine c18 none (fun q => z2 ?_)
    rw [q.2]
    rfl
theorem ok_MO_isWhole (hr : RMd σ s) (h : ∀ x : Int, (x = 0 ∨ x = 1) → (x = 1 ↔ stn s) → Φ (some (.inl x)) σ) : Ct (d + 1) M_MO_isWhole [rf 10 0] σ Φ := by
  refine i_MO_isWhole (Nat.le_add_right 1 3) (fun At h2 => ?_)
  obtain ⟨r1, r2, r3, r4, r5, r6, r7, r8, r9⟩ := hr
  have key : ∀ (m i : Nat) (x y : Option jV), i + m = s.2.2.1 → (∀ f, f < i → s.2.2.2.2.2 (4 * f) < s.2.1 ∧ s.2.2.2.2.2 (4 * f + 1) < s.2.1 ∧ s.2.2.2.2.2 (4 * f) ≠ s.2.2.2.2.2 (4 * f + 1)) → At 2 [some (rf 10 0), some (.inl i), x, y] [] σ := by
    intro m
    induction m with
    | zero =>
      intro i x y hi hs
      refine h2 _ _ _ ?_
      simp only [w_MO_isWhole_2, w_MO_isWhole_59, w_MO_isWhole_78, w_MO_isWhole_79, c_ic, c_lc, c_nul, c_il, c_ll, c_al, c_is, c_ls, c_as, c_inc, c_b2, c_b2n, c_b1, c_d2, c_d2n, c_dsh, c_i2l, c_l2i, c_lcm, c_dup, c_dup2, c_pop, c_j1, c_j2, c_jn, c_sw0, c_sw, c_gI, c_gL, c_gR, c_gS, c_pI, c_pZ, c_pL, c_pR, c_iald, c_ialg, c_iast, c_iasg, c_bald, c_bast, c_lald, c_last, c_aald, c_aals, c_aast, c_alen, c_bnd, c_str, c_bndl, c_bnln, c_sval, c_scod, c_sbal, c_sbln, c_fmt, c_stop, c_iret, c_zret, c_nret, c_aret, c_vret, c_lret, c_cpy, c_callV, c_callS, tkA, lget, lput, lkill, jpush, vsz, jcat, lins, lent, List.length_cons, List.length_nil, List.replicate, List.append_nil, List.cons_append, List.nil_append, reduceIte, Nat.reduceAdd, Nat.reduceSub, Nat.reduceEqDiff, true_and, and_true, Nat.reduceLeDiff, Nat.lt_irrefl, Nat.succ_ne_self, forall_const, ne_eq, not_true_eq_false, not_false_eq_true, false_implies, implies_true, true_implies, true_or, or_true, or_false, false_or, eq_self, Int.reduceEq, Int.reduceLT, Int.reduceLE, Int.reduceNeg, Int.reduceToNat, Int.reduceAdd, Int.reduceSub, Int.reduceMul, Int.reduceNe, and_self, r3, r4]
      refine ⟨fun _ => ⟨fun z => ?_, fun z => ⟨fun z2 => ?_, fun z2 => ?_⟩⟩, fun z => absurd z (by omega)⟩
      · exact h 0 (Or.inl rfl) ⟨fun w => absurd w (by decide), fun w => by have := w.1; omega⟩
      · exact h 0 (Or.inl rfl) ⟨fun w => absurd w (by decide), fun w => by have := w.2.1; omega⟩
      · exact h 1 (Or.inr rfl) ⟨fun _ => ⟨by omega, by omega, fun f hf => hs f (by omega)⟩, fun _ => rfl⟩
    | succ m ih =>
      intro i x y hi hs
      refine h2 _ _ _ ?_
      have e1 : wr (4 * (i : Int)) = ((4 * i : Nat) : Int) := by simp (disch := omega) only [wr_id]; omega
      have e2 : wr (((4 * i : Nat) : Int) + 1) = ((4 * i + 1 : Nat) : Int) := by simp (disch := omega) only [wr_id]; omega
      have l64 : jln 64 2 = 32 := by decide
      have no : ¬ (s.2.2.2.2.2 (4 * i) < s.2.1 ∧ s.2.2.2.2.2 (4 * i + 1) < s.2.1 ∧ s.2.2.2.2.2 (4 * i) ≠ s.2.2.2.2.2 (4 * i + 1)) → Φ (some (.inl 0)) σ := fun q => h 0 (Or.inl rfl) ⟨fun w => absurd w (by decide), fun w => absurd (w.2.2 i (by omega)) q⟩
      simp only [w_MO_isWhole_2, w_MO_isWhole_51, w_MO_isWhole_53, c_ic, c_lc, c_nul, c_il, c_ll, c_al, c_is, c_ls, c_as, c_inc, c_b2, c_b2n, c_b1, c_d2, c_d2n, c_dsh, c_i2l, c_l2i, c_lcm, c_dup, c_dup2, c_pop, c_j1, c_j2, c_jn, c_sw0, c_sw, c_gI, c_gL, c_gR, c_gS, c_pI, c_pZ, c_pL, c_pR, c_iald, c_ialg, c_iast, c_iasg, c_bald, c_bast, c_lald, c_last, c_aald, c_aals, c_aast, c_alen, c_bnd, c_str, c_bndl, c_bnln, c_sval, c_scod, c_sbal, c_sbln, c_fmt, c_stop, c_iret, c_zret, c_nret, c_aret, c_vret, c_lret, c_cpy, c_callV, c_callS, tkA, lget, lput, lkill, jpush, vsz, jcat, lins, lent, List.length_cons, List.length_nil, List.replicate, List.append_nil, List.cons_append, List.nil_append, reduceIte, Nat.reduceAdd, Nat.reduceSub, Nat.reduceEqDiff, true_and, and_true, Nat.reduceLeDiff, Nat.lt_irrefl, Nat.succ_ne_self, forall_const, ne_eq, not_true_eq_false, not_false_eq_true, false_implies, implies_true, true_implies, true_or, or_true, or_false, false_or, eq_self, Int.reduceEq, Int.reduceLT, Int.reduceLE, Int.reduceNeg, Int.reduceToNat, Int.reduceAdd, Int.reduceSub, Int.reduceMul, Int.reduceNe, and_self, r3, r4, e1, e2, Int.toNat_natCast, l64, r9 (4 * i) (by omega), r9 (4 * i + 1) (by omega), inc_nat (show i ≤ 100000 by omega)]
      refine ⟨fun z => absurd z (by omega), fun _ => ⟨by decide, ⟨by omega, by omega⟩, by decide, ⟨by omega, by omega⟩, fun z => no (fun q => by omega), fun z => ⟨fun z2 => no (fun q => by omega), fun z2 => ⟨fun z3 => ?_, fun z3 => no (fun q => z3 q.2.2)⟩⟩⟩⟩
      refine ih (i + 1) _ _ (by omega) (fun f hf => ?_)
      by_cases y : f = i
      · rw [y]; exact ⟨by omega, by omega, z3⟩
      · exact hs f (by omega)
  simp only [w_MO_isWhole_0, c_ic, c_lc, c_nul, c_il, c_ll, c_al, c_is, c_ls, c_as, c_inc, c_b2, c_b2n, c_b1, c_d2, c_d2n, c_dsh, c_i2l, c_l2i, c_lcm, c_dup, c_dup2, c_pop, c_j1, c_j2, c_jn, c_sw0, c_sw, c_gI, c_gL, c_gR, c_gS, c_pI, c_pZ, c_pL, c_pR, c_iald, c_ialg, c_iast, c_iasg, c_bald, c_bast, c_lald, c_last, c_aald, c_aals, c_aast, c_alen, c_bnd, c_str, c_bndl, c_bnln, c_sval, c_scod, c_sbal, c_sbln, c_fmt, c_stop, c_iret, c_zret, c_nret, c_aret, c_vret, c_lret, c_cpy, c_callV, c_callS, tkA, lget, lput, lkill, jpush, vsz, jcat, lins, lent, List.length_cons, List.length_nil, List.replicate, List.append_nil, List.cons_append, List.nil_append, reduceIte, Nat.reduceAdd, Nat.reduceSub, Nat.reduceEqDiff, true_and, and_true, Nat.reduceLeDiff, Nat.lt_irrefl, Nat.succ_ne_self, forall_const, ne_eq, not_true_eq_false, not_false_eq_true, false_implies, implies_true, true_implies, true_or, or_true, or_false, false_or, eq_self, Int.reduceEq, Int.reduceLT, Int.reduceLE, Int.reduceNeg, Int.reduceToNat, Int.reduceAdd, Int.reduceSub, Int.reduceMul, Int.reduceNe, and_self]
  exact key s.2.2.1 0 none none (Nat.zero_add _) (fun f hf => absurd hf (by omega))
theorem ok_MO_readRealm (H : TX σ 0 0 n T) (hn : σ.1 10 0 6 = n) (h : ReP (fun p => ∀ τ, Fr SRr σ τ → τ.1 10 0 11 = p → Φ none τ) (fun s => ∀ τ, Fr SRr σ τ → τ.1 10 0 11 = -1 → RMd τ s → Φ none τ) (pRealm T n)) : Ct (d + 9) M_MO_readRealm [rf 10 0] σ Φ := by
  refine i_MO_readRealm (Nat.le_add_right 1 1) (fun At h30 h55 => ?_)
  have n240 := H.1
  have hT := H.2.2.2.2
  have gF : ∀ {τ : jM} {a f dp : Int}, Fr SRr σ τ → Fr SRr σ (ms τ a f dp) := fun hf => hf.ms (fun o h1 h2 => Or.inl ⟨rfl, rfl, Or.inr (Or.inl ⟨by omega, by omega⟩)⟩)
  have wq : ∀ {τ υ : jM}, Fr SRr σ τ → Fr SRq τ υ → Fr SRr σ υ := fun f1 f2 => f1.tr (f2.wk (fun k j o q => Or.inr q))
  have wb : ∀ {τ υ : jM}, MB τ 0 0 n T → Fr SRq τ υ → MB υ 0 0 n T := fun HB f2 => HB.fr f2 (fun o q y => by unfold SRq at y; omega) (fun o y => by unfold SRq at y; omega)
  have exBad : ∀ (τ : jM) (a' dp : Int) (p : Nat), Fr SRr σ τ → (∀ τ, Fr SRr σ τ → τ.1 10 0 11 = p → Φ none τ) → At 55 [some (rf 10 0), some (.inl 0)] [] (ms τ a' p dp) := by
    intro τ a' dp p hF hq
    refine h55 _ _ _ ?_
    simp only [w_MO_readRealm_55, w_MO_readRealm_111, w_MO_readRealm_139, c_ic, c_lc, c_nul, c_il, c_ll, c_al, c_is, c_ls, c_as, c_inc, c_b2, c_b2n, c_b1, c_d2, c_d2n, c_dsh, c_i2l, c_l2i, c_lcm, c_dup, c_dup2, c_pop, c_j1, c_j2, c_jn, c_sw0, c_sw, c_gI, c_gL, c_gR, c_gS, c_pI, c_pZ, c_pL, c_pR, c_iald, c_ialg, c_iast, c_iasg, c_bald, c_bast, c_lald, c_last, c_aald, c_aals, c_aast, c_alen, c_bnd, c_str, c_bndl, c_bnln, c_sval, c_scod, c_sbal, c_sbln, c_fmt, c_stop, c_iret, c_zret, c_nret, c_aret, c_vret, c_lret, c_cpy, c_callV, c_callS, tkA, lget, lput, lkill, jpush, vsz, jcat, lins, lent, List.length_cons, List.length_nil, List.replicate, List.append_nil, List.cons_append, List.nil_append, reduceIte, Nat.reduceAdd, Nat.reduceSub, Nat.reduceEqDiff, true_and, and_true, Nat.reduceLeDiff, Nat.lt_irrefl, Nat.succ_ne_self, forall_const, ne_eq, not_true_eq_false, not_false_eq_true, false_implies, implies_true, true_implies, true_or, or_true, or_false, false_or, eq_self, Int.reduceEq, Int.reduceLT, Int.reduceLE, Int.reduceNeg, Int.reduceToNat, Int.reduceAdd, Int.reduceSub, Int.reduceMul, Int.reduceNe, and_self, ms_11]
    exact ⟨fun _ => hq _ (gF hF) rfl, fun q => absurd (Classical.not_not.mp q) (by omega)⟩
  have exGood : ∀ (τ : jM) (b : Nat) (dp : Int) (s : RS), b ≤ n → nb T n b = b → Fr SRr σ τ → MB τ 0 0 n T → RMd τ s → ReP (fun p => ∀ τ, Fr SRr σ τ → τ.1 10 0 11 = p → Φ none τ) (fun s => ∀ τ, Fr SRr σ τ → τ.1 10 0 11 = -1 → RMd τ s → Φ none τ) (pRend n (b, s)) → At 55 [some (rf 10 0), some (.inl 0)] [] (ms τ b (-1) dp) := by
    intro τ b dp s hb hnb hF HB hr hq
    unfold pRend at hq
    simp only at hq
    refine h55 _ _ _ ?_
    simp only [w_MO_readRealm_55, w_MO_readRealm_111, w_MO_readRealm_134, w_MO_readRealm_139, c_ic, c_lc, c_nul, c_il, c_ll, c_al, c_is, c_ls, c_as, c_inc, c_b2, c_b2n, c_b1, c_d2, c_d2n, c_dsh, c_i2l, c_l2i, c_lcm, c_dup, c_dup2, c_pop, c_j1, c_j2, c_jn, c_sw0, c_sw, c_gI, c_gL, c_gR, c_gS, c_pI, c_pZ, c_pL, c_pR, c_iald, c_ialg, c_iast, c_iasg, c_bald, c_bast, c_lald, c_last, c_aald, c_aals, c_aast, c_alen, c_bnd, c_str, c_bndl, c_bnln, c_sval, c_scod, c_sbal, c_sbln, c_fmt, c_stop, c_iret, c_zret, c_nret, c_aret, c_vret, c_lret, c_cpy, c_callV, c_callS, tkA, lget, lput, lkill, jpush, vsz, jcat, lins, lent, List.length_cons, List.length_nil, List.replicate, List.append_nil, List.cons_append, List.nil_append, reduceIte, Nat.reduceAdd, Nat.reduceSub, Nat.reduceEqDiff, true_and, and_true, Nat.reduceLeDiff, Nat.lt_irrefl, Nat.succ_ne_self, forall_const, ne_eq, not_true_eq_false, not_false_eq_true, false_implies, implies_true, true_implies, true_or, or_true, or_false, false_or, eq_self, Int.reduceEq, Int.reduceLT, Int.reduceLE, Int.reduceNeg, Int.reduceToNat, Int.reduceAdd, Int.reduceSub, Int.reduceMul, Int.reduceNe, and_self, ms_11]
    refine ok_MO_look HB hb ?_
    rw [hnb]
    have hs := sg_neg (T := T) (n := n) (a := b) hT
    simp only [c_ic, c_lc, c_nul, c_il, c_ll, c_al, c_is, c_ls, c_as, c_inc, c_b2, c_b2n, c_b1, c_d2, c_d2n, c_dsh, c_i2l, c_l2i, c_lcm, c_dup, c_dup2, c_pop, c_j1, c_j2, c_jn, c_sw0, c_sw, c_gI, c_gL, c_gR, c_gS, c_pI, c_pZ, c_pL, c_pR, c_iald, c_ialg, c_iast, c_iasg, c_bald, c_bast, c_lald, c_last, c_aald, c_aals, c_aast, c_alen, c_bnd, c_str, c_bndl, c_bnln, c_sval, c_scod, c_sbal, c_sbln, c_fmt, c_stop, c_iret, c_zret, c_nret, c_aret, c_vret, c_lret, c_cpy, c_callV, c_callS, tkA, lget, lput, lkill, jpush, vsz, jcat, lins, lent, List.length_cons, List.length_nil, List.replicate, List.append_nil, List.cons_append, List.nil_append, reduceIte, Nat.reduceAdd, Nat.reduceSub, Nat.reduceEqDiff, true_and, and_true, Nat.reduceLeDiff, Nat.lt_irrefl, Nat.succ_ne_self, forall_const, ne_eq, not_true_eq_false, not_false_eq_true, false_implies, implies_true, true_implies, true_or, or_true, or_false, false_or, eq_self, Int.reduceEq, Int.reduceLT, Int.reduceLE, Int.reduceNeg, Int.reduceToNat, Int.reduceAdd, Int.reduceSub, Int.reduceMul, Int.reduceNe, and_self]
    refine ⟨fun z => ?_, fun z => ?_⟩
    · rw [if_pos (by omega)] at hq
      refine ok_MO_fails ?_
      rw [ff_1]
      simp only [c_ic, c_lc, c_nul, c_il, c_ll, c_al, c_is, c_ls, c_as, c_inc, c_b2, c_b2n, c_b1, c_d2, c_d2n, c_dsh, c_i2l, c_l2i, c_lcm, c_dup, c_dup2, c_pop, c_j1, c_j2, c_jn, c_sw0, c_sw, c_gI, c_gL, c_gR, c_gS, c_pI, c_pZ, c_pL, c_pR, c_iald, c_ialg, c_iast, c_iasg, c_bald, c_bast, c_lald, c_last, c_aald, c_aals, c_aast, c_alen, c_bnd, c_str, c_bndl, c_bnln, c_sval, c_scod, c_sbal, c_sbln, c_fmt, c_stop, c_iret, c_zret, c_nret, c_aret, c_vret, c_lret, c_cpy, c_callV, c_callS, tkA, lget, lput, lkill, jpush, vsz, jcat, lins, lent, List.length_cons, List.length_nil, List.replicate, List.append_nil, List.cons_append, List.nil_append, reduceIte, Nat.reduceAdd, Nat.reduceSub, Nat.reduceEqDiff, true_and, and_true, Nat.reduceLeDiff, Nat.lt_irrefl, Nat.succ_ne_self, forall_const, ne_eq, not_true_eq_false, not_false_eq_true, false_implies, implies_true, true_implies, true_or, or_true, or_false, false_or, eq_self, Int.reduceEq, Int.reduceLT, Int.reduceLE, Int.reduceNeg, Int.reduceToNat, Int.reduceAdd, Int.reduceSub, Int.reduceMul, Int.reduceNe, and_self]
      exact hq _ (gF hF) rfl
    · rw [if_neg (by omega)] at hq
      refine ok_MO_isWhole hr.ms (fun x hx hxs => ?_)
      simp only [c_ic, c_lc, c_nul, c_il, c_ll, c_al, c_is, c_ls, c_as, c_inc, c_b2, c_b2n, c_b1, c_d2, c_d2n, c_dsh, c_i2l, c_l2i, c_lcm, c_dup, c_dup2, c_pop, c_j1, c_j2, c_jn, c_sw0, c_sw, c_gI, c_gL, c_gR, c_gS, c_pI, c_pZ, c_pL, c_pR, c_iald, c_ialg, c_iast, c_iasg, c_bald, c_bast, c_lald, c_last, c_aald, c_aals, c_aast, c_alen, c_bnd, c_str, c_bndl, c_bnln, c_sval, c_scod, c_sbal, c_sbln, c_fmt, c_stop, c_iret, c_zret, c_nret, c_aret, c_vret, c_lret, c_cpy, c_callV, c_callS, tkA, lget, lput, lkill, jpush, vsz, jcat, lins, lent, List.length_cons, List.length_nil, List.replicate, List.append_nil, List.cons_append, List.nil_append, reduceIte, Nat.reduceAdd, Nat.reduceSub, Nat.reduceEqDiff, true_and, and_true, Nat.reduceLeDiff, Nat.lt_irrefl, Nat.succ_ne_self, forall_const, ne_eq, not_true_eq_false, not_false_eq_true, false_implies, implies_true, true_implies, true_or, or_true, or_false, false_or, eq_self, Int.reduceEq, Int.reduceLT, Int.reduceLE, Int.reduceNeg, Int.reduceToNat, Int.reduceAdd, Int.reduceSub, Int.reduceMul, Int.reduceNe, and_self]
      refine ⟨fun y => ?_, fun y => ?_⟩
      · rw [if_pos (hxs.mp (by omega))] at hq
        exact hq _ (gF hF) rfl hr.ms
      · rw [if_neg (fun q => by have := hxs.mpr q; omega)] at hq
        refine ok_MO_fails ?_
        rw [ff_1]
        simp only [c_ic, c_lc, c_nul, c_il, c_ll, c_al, c_is, c_ls, c_as, c_inc, c_b2, c_b2n, c_b1, c_d2, c_d2n, c_dsh, c_i2l, c_l2i, c_lcm, c_dup, c_dup2, c_pop, c_j1, c_j2, c_jn, c_sw0, c_sw, c_gI, c_gL, c_gR, c_gS, c_pI, c_pZ, c_pL, c_pR, c_iald, c_ialg, c_iast, c_iasg, c_bald, c_bast, c_lald, c_last, c_aald, c_aals, c_aast, c_alen, c_bnd, c_str, c_bndl, c_bnln, c_sval, c_scod, c_sbal, c_sbln, c_fmt, c_stop, c_iret, c_zret, c_nret, c_aret, c_vret, c_lret, c_cpy, c_callV, c_callS, tkA, lget, lput, lkill, jpush, vsz, jcat, lins, lent, List.length_cons, List.length_nil, List.replicate, List.append_nil, List.cons_append, List.nil_append, reduceIte, Nat.reduceAdd, Nat.reduceSub, Nat.reduceEqDiff, true_and, and_true, Nat.reduceLeDiff, Nat.lt_irrefl, Nat.succ_ne_self, forall_const, ne_eq, not_true_eq_false, not_false_eq_true, false_implies, implies_true, true_implies, true_or, or_true, or_false, false_or, eq_self, Int.reduceEq, Int.reduceLT, Int.reduceLE, Int.reduceNeg, Int.reduceToNat, Int.reduceAdd, Int.reduceSub, Int.reduceMul, Int.reduceNe, and_self]
        exact hq _ (gF hF) rfl
  have key : ∀ (m : Nat) (τ : jM) (a : Nat) (dp : Int) (s : RS), 240 ≤ a + m → a ≤ n → Fr SRr σ τ → MB τ 0 0 n T → RMd τ s → ReP (fun p => ∀ τ, Fr SRr σ τ → τ.1 10 0 11 = p → Φ none τ) (fun s => ∀ τ, Fr SRr σ τ → τ.1 10 0 11 = -1 → RMd τ s → Φ none τ) (match pRcl T n s (nb T n a) with | .inl p => .inl p | .inr q => match pRcls T n m q.1 q.2 with | .inl p => .inl p | .inr q => pRend n q) → At 55 [some (rf 10 0), some (.inl 1)] [] (ms τ a (-1) dp) := by
    intro m
    induction m with
    | zero =>
      intro τ a dp s hm ha hF HB hr hq
      refine h55 _ _ _ ?_
      simp only [w_MO_readRealm_55, c_ic, c_lc, c_nul, c_il, c_ll, c_al, c_is, c_ls, c_as, c_inc, c_b2, c_b2n, c_b1, c_d2, c_d2n, c_dsh, c_i2l, c_l2i, c_lcm, c_dup, c_dup2, c_pop, c_j1, c_j2, c_jn, c_sw0, c_sw, c_gI, c_gL, c_gR, c_gS, c_pI, c_pZ, c_pL, c_pR, c_iald, c_ialg, c_iast, c_iasg, c_bald, c_bast, c_lald, c_last, c_aald, c_aals, c_aast, c_alen, c_bnd, c_str, c_bndl, c_bnln, c_sval, c_scod, c_sbal, c_sbln, c_fmt, c_stop, c_iret, c_zret, c_nret, c_aret, c_vret, c_lret, c_cpy, c_callV, c_callS, tkA, lget, lput, lkill, jpush, vsz, jcat, lins, lent, List.length_cons, List.length_nil, List.replicate, List.append_nil, List.cons_append, List.nil_append, reduceIte, Nat.reduceAdd, Nat.reduceSub, Nat.reduceEqDiff, true_and, and_true, Nat.reduceLeDiff, Nat.lt_irrefl, Nat.succ_ne_self, forall_const, ne_eq, not_true_eq_false, not_false_eq_true, false_implies, implies_true, true_implies, true_or, or_true, or_false, false_or, eq_self, Int.reduceEq, Int.reduceLT, Int.reduceLE, Int.reduceNeg, Int.reduceToNat, Int.reduceAdd, Int.reduceSub, Int.reduceMul, Int.reduceNe, and_self, ms_11]
      refine ok_MO_readClause HB ha hr ?_
      cases he : pRcl T n s (nb T n a) with
      | inl p =>
        rw [he] at hq
        intro τ' a' t1
        simp only [w_MO_readRealm_92, w_MO_readRealm_93, c_ic, c_lc, c_nul, c_il, c_ll, c_al, c_is, c_ls, c_as, c_inc, c_b2, c_b2n, c_b1, c_d2, c_d2n, c_dsh, c_i2l, c_l2i, c_lcm, c_dup, c_dup2, c_pop, c_j1, c_j2, c_jn, c_sw0, c_sw, c_gI, c_gL, c_gR, c_gS, c_pI, c_pZ, c_pL, c_pR, c_iald, c_ialg, c_iast, c_iasg, c_bald, c_bast, c_lald, c_last, c_aald, c_aals, c_aast, c_alen, c_bnd, c_str, c_bndl, c_bnln, c_sval, c_scod, c_sbal, c_sbln, c_fmt, c_stop, c_iret, c_zret, c_nret, c_aret, c_vret, c_lret, c_cpy, c_callV, c_callS, tkA, lget, lput, lkill, jpush, vsz, jcat, lins, lent, List.length_cons, List.length_nil, List.replicate, List.append_nil, List.cons_append, List.nil_append, reduceIte, Nat.reduceAdd, Nat.reduceSub, Nat.reduceEqDiff, true_and, and_true, Nat.reduceLeDiff, Nat.lt_irrefl, Nat.succ_ne_self, forall_const, ne_eq, not_true_eq_false, not_false_eq_true, false_implies, implies_true, true_implies, true_or, or_true, or_false, false_or, eq_self, Int.reduceEq, Int.reduceLT, Int.reduceLE, Int.reduceNeg, Int.reduceToNat, Int.reduceAdd, Int.reduceSub, Int.reduceMul, Int.reduceNe, and_self, ms_11]
        exact ⟨fun _ => exBad τ' a' dp p (wq hF t1) hq, fun q => absurd (Classical.not_not.mp q) (by omega)⟩
      | inr q =>
        have h1 := pRcl_ge he
        have h2 := (pRcl_nb he).2
        have h3 := nb_ge T n a
        omega
    | succ m ih =>
      intro τ a dp s hm ha hF HB hr hq
      refine h55 _ _ _ ?_
      simp only [w_MO_readRealm_55, c_ic, c_lc, c_nul, c_il, c_ll, c_al, c_is, c_ls, c_as, c_inc, c_b2, c_b2n, c_b1, c_d2, c_d2n, c_dsh, c_i2l, c_l2i, c_lcm, c_dup, c_dup2, c_pop, c_j1, c_j2, c_jn, c_sw0, c_sw, c_gI, c_gL, c_gR, c_gS, c_pI, c_pZ, c_pL, c_pR, c_iald, c_ialg, c_iast, c_iasg, c_bald, c_bast, c_lald, c_last, c_aald, c_aals, c_aast, c_alen, c_bnd, c_str, c_bndl, c_bnln, c_sval, c_scod, c_sbal, c_sbln, c_fmt, c_stop, c_iret, c_zret, c_nret, c_aret, c_vret, c_lret, c_cpy, c_callV, c_callS, tkA, lget, lput, lkill, jpush, vsz, jcat, lins, lent, List.length_cons, List.length_nil, List.replicate, List.append_nil, List.cons_append, List.nil_append, reduceIte, Nat.reduceAdd, Nat.reduceSub, Nat.reduceEqDiff, true_and, and_true, Nat.reduceLeDiff, Nat.lt_irrefl, Nat.succ_ne_self, forall_const, ne_eq, not_true_eq_false, not_false_eq_true, false_implies, implies_true, true_implies, true_or, or_true, or_false, false_or, eq_self, Int.reduceEq, Int.reduceLT, Int.reduceLE, Int.reduceNeg, Int.reduceToNat, Int.reduceAdd, Int.reduceSub, Int.reduceMul, Int.reduceNe, and_self, ms_11]
      refine ok_MO_readClause HB ha hr ?_
      cases he : pRcl T n s (nb T n a) with
      | inl p =>
        rw [he] at hq
        intro τ' a' t1
        simp only [w_MO_readRealm_92, w_MO_readRealm_93, c_ic, c_lc, c_nul, c_il, c_ll, c_al, c_is, c_ls, c_as, c_inc, c_b2, c_b2n, c_b1, c_d2, c_d2n, c_dsh, c_i2l, c_l2i, c_lcm, c_dup, c_dup2, c_pop, c_j1, c_j2, c_jn, c_sw0, c_sw, c_gI, c_gL, c_gR, c_gS, c_pI, c_pZ, c_pL, c_pR, c_iald, c_ialg, c_iast, c_iasg, c_bald, c_bast, c_lald, c_last, c_aald, c_aals, c_aast, c_alen, c_bnd, c_str, c_bndl, c_bnln, c_sval, c_scod, c_sbal, c_sbln, c_fmt, c_stop, c_iret, c_zret, c_nret, c_aret, c_vret, c_lret, c_cpy, c_callV, c_callS, tkA, lget, lput, lkill, jpush, vsz, jcat, lins, lent, List.length_cons, List.length_nil, List.replicate, List.append_nil, List.cons_append, List.nil_append, reduceIte, Nat.reduceAdd, Nat.reduceSub, Nat.reduceEqDiff, true_and, and_true, Nat.reduceLeDiff, Nat.lt_irrefl, Nat.succ_ne_self, forall_const, ne_eq, not_true_eq_false, not_false_eq_true, false_implies, implies_true, true_implies, true_or, or_true, or_false, false_or, eq_self, Int.reduceEq, Int.reduceLT, Int.reduceLE, Int.reduceNeg, Int.reduceToNat, Int.reduceAdd, Int.reduceSub, Int.reduceMul, Int.reduceNe, and_self, ms_11]
        exact ⟨fun _ => exBad τ' a' dp p (wq hF t1) hq, fun q => absurd (Classical.not_not.mp q) (by omega)⟩
      | inr q =>
        rw [he] at hq
        have q1 := pRcl_ge he
        obtain ⟨q2, q3⟩ := pRcl_nb he
        have q4 := nb_ge T n a
        simp only at hq
        unfold pRcls at hq
        intro τ' t1 t2
        refine ⟨?_, fun y1 y2 => ?_⟩
        · simp only [w_MO_readRealm_92, w_MO_readRealm_93, c_ic, c_lc, c_nul, c_il, c_ll, c_al, c_is, c_ls, c_as, c_inc, c_b2, c_b2n, c_b1, c_d2, c_d2n, c_dsh, c_i2l, c_l2i, c_lcm, c_dup, c_dup2, c_pop, c_j1, c_j2, c_jn, c_sw0, c_sw, c_gI, c_gL, c_gR, c_gS, c_pI, c_pZ, c_pL, c_pR, c_iald, c_ialg, c_iast, c_iasg, c_bald, c_bast, c_lald, c_last, c_aald, c_aals, c_aast, c_alen, c_bnd, c_str, c_bndl, c_bnln, c_sval, c_scod, c_sbal, c_sbln, c_fmt, c_stop, c_iret, c_zret, c_nret, c_aret, c_vret, c_lret, c_cpy, c_callV, c_callS, tkA, lget, lput, lkill, jpush, vsz, jcat, lins, lent, List.length_cons, List.length_nil, List.replicate, List.append_nil, List.cons_append, List.nil_append, reduceIte, Nat.reduceAdd, Nat.reduceSub, Nat.reduceEqDiff, true_and, and_true, Nat.reduceLeDiff, Nat.lt_irrefl, Nat.succ_ne_self, forall_const, ne_eq, not_true_eq_false, not_false_eq_true, false_implies, implies_true, true_implies, true_or, or_true, or_false, false_or, eq_self, Int.reduceEq, Int.reduceLT, Int.reduceLE, Int.reduceNeg, Int.reduceToNat, Int.reduceAdd, Int.reduceSub, Int.reduceMul, Int.reduceNe, and_self, ms_11]
          refine ok_MO_look (wb HB t1) q3 ?_
          rw [q2]
          simp only [c_ic, c_lc, c_nul, c_il, c_ll, c_al, c_is, c_ls, c_as, c_inc, c_b2, c_b2n, c_b1, c_d2, c_d2n, c_dsh, c_i2l, c_l2i, c_lcm, c_dup, c_dup2, c_pop, c_j1, c_j2, c_jn, c_sw0, c_sw, c_gI, c_gL, c_gR, c_gS, c_pI, c_pZ, c_pL, c_pR, c_iald, c_ialg, c_iast, c_iasg, c_bald, c_bast, c_lald, c_last, c_aald, c_aals, c_aast, c_alen, c_bnd, c_str, c_bndl, c_bnln, c_sval, c_scod, c_sbal, c_sbln, c_fmt, c_stop, c_iret, c_zret, c_nret, c_aret, c_vret, c_lret, c_cpy, c_callV, c_callS, tkA, lget, lput, lkill, jpush, vsz, jcat, lins, lent, List.length_cons, List.length_nil, List.replicate, List.append_nil, List.cons_append, List.nil_append, reduceIte, Nat.reduceAdd, Nat.reduceSub, Nat.reduceEqDiff, true_and, and_true, Nat.reduceLeDiff, Nat.lt_irrefl, Nat.succ_ne_self, forall_const, ne_eq, not_true_eq_false, not_false_eq_true, false_implies, implies_true, true_implies, true_or, or_true, or_false, false_or, eq_self, Int.reduceEq, Int.reduceLT, Int.reduceLE, Int.reduceNeg, Int.reduceToNat, Int.reduceAdd, Int.reduceSub, Int.reduceMul, Int.reduceNe, and_self, ms_10, ms_s10, inc_nat (show q.1 ≤ 100000 by omega)]
          refine ⟨fun z => ?_, fun z => ?_⟩
          · rw [if_neg z] at hq
            exact exGood τ' q.1 dp q.2 q3 q2 (wq hF t1) (wb HB t1) t2 hq
          · have z := Classical.not_not.mp z
            rw [if_pos z] at hq
            have := sg_lt z (by decide)
            refine ih τ' (q.1 + 1) dp q.2 (by omega) (by omega) (wq hF t1) (wb HB t1) t2 ?_
            rw [show nb T n (q.1 + 1) = nx T n q.1 from rfl]
            cases he2 : pRcl T n q.2 (nx T n q.1) with
            | inl p => rw [he2] at hq; exact hq
            | inr q' => rw [he2] at hq; exact hq
        · rw [if_neg y2] at hq
          simp only [w_MO_readRealm_92, w_MO_readRealm_93, c_ic, c_lc, c_nul, c_il, c_ll, c_al, c_is, c_ls, c_as, c_inc, c_b2, c_b2n, c_b1, c_d2, c_d2n, c_dsh, c_i2l, c_l2i, c_lcm, c_dup, c_dup2, c_pop, c_j1, c_j2, c_jn, c_sw0, c_sw, c_gI, c_gL, c_gR, c_gS, c_pI, c_pZ, c_pL, c_pR, c_iald, c_ialg, c_iast, c_iasg, c_bald, c_bast, c_lald, c_last, c_aald, c_aals, c_aast, c_alen, c_bnd, c_str, c_bndl, c_bnln, c_sval, c_scod, c_sbal, c_sbln, c_fmt, c_stop, c_iret, c_zret, c_nret, c_aret, c_vret, c_lret, c_cpy, c_callV, c_callS, tkA, lget, lput, lkill, jpush, vsz, jcat, lins, lent, List.length_cons, List.length_nil, List.replicate, List.append_nil, List.cons_append, List.nil_append, reduceIte, Nat.reduceAdd, Nat.reduceSub, Nat.reduceEqDiff, true_and, and_true, Nat.reduceLeDiff, Nat.lt_irrefl, Nat.succ_ne_self, forall_const, ne_eq, not_true_eq_false, not_false_eq_true, false_implies, implies_true, true_implies, true_or, or_true, or_false, false_or, eq_self, Int.reduceEq, Int.reduceLT, Int.reduceLE, Int.reduceNeg, Int.reduceToNat, Int.reduceAdd, Int.reduceSub, Int.reduceMul, Int.reduceNe, and_self, ms_11]
          refine ⟨fun _ => exBad τ' q.1 dp q.1 (wq hF t1) ?_, fun q => absurd (Classical.not_not.mp q) (by omega)⟩
          unfold pRend at hq
          simp only at hq
          rw [if_pos y1] at hq
          exact hq
  have key0 : ∀ (m i : Nat) (τ : jM) (dp : Int), i + m = 2 → Fr SRr σ τ → MB τ 0 0 n T → (τ.1 10 0 28 = 0 ∧ τ.1 10 0 29 = 0 ∧ τ.1 10 0 31 = 0) → (∀ o, o < i → τ.1 64 0 o = dfl 0 o) → At 30 [some (rf 10 0), some (.inl i)] [] (ms τ 0 (-1) dp) := by
    intro m
    induction m with
    | zero =>
      intro i τ dp hi hF HB h0 hv
      refine h30 _ _ _ ?_
      simp only [w_MO_readRealm_30, w_MO_readRealm_53, c_ic, c_lc, c_nul, c_il, c_ll, c_al, c_is, c_ls, c_as, c_inc, c_b2, c_b2n, c_b1, c_d2, c_d2n, c_dsh, c_i2l, c_l2i, c_lcm, c_dup, c_dup2, c_pop, c_j1, c_j2, c_jn, c_sw0, c_sw, c_gI, c_gL, c_gR, c_gS, c_pI, c_pZ, c_pL, c_pR, c_iald, c_ialg, c_iast, c_iasg, c_bald, c_bast, c_lald, c_last, c_aald, c_aals, c_aast, c_alen, c_bnd, c_str, c_bndl, c_bnln, c_sval, c_scod, c_sbal, c_sbln, c_fmt, c_stop, c_iret, c_zret, c_nret, c_aret, c_vret, c_lret, c_cpy, c_callV, c_callS, tkA, lget, lput, lkill, jpush, vsz, jcat, lins, lent, List.length_cons, List.length_nil, List.replicate, List.append_nil, List.cons_append, List.nil_append, reduceIte, Nat.reduceAdd, Nat.reduceSub, Nat.reduceEqDiff, true_and, and_true, Nat.reduceLeDiff, Nat.lt_irrefl, Nat.succ_ne_self, forall_const, ne_eq, not_true_eq_false, not_false_eq_true, false_implies, implies_true, true_implies, true_or, or_true, or_false, false_or, eq_self, Int.reduceEq, Int.reduceLT, Int.reduceLE, Int.reduceNeg, Int.reduceToNat, Int.reduceAdd, Int.reduceSub, Int.reduceMul, Int.reduceNe, and_self]
      refine ⟨fun _ => ?_, fun z => absurd z (by omega)⟩
      refine key 240 τ 0 dp rs0 (by decide) (Nat.zero_le _) hF HB ?_ h
      exact ⟨by decide, by decide, h0.1, h0.2.1, h0.2.2, hv 0 (by omega), hv 1 (by omega), fun o ho => absurd ho (Nat.not_lt_zero o), fun o ho => absurd ho (Nat.not_lt_zero o)⟩
    | succ m ih =>
      intro i τ dp hi hF HB h0 hv
      refine h30 _ _ _ ?_
      have l64 : jln 64 0 = 2 := by decide
      simp only [w_MO_readRealm_30, c_ic, c_lc, c_nul, c_il, c_ll, c_al, c_is, c_ls, c_as, c_inc, c_b2, c_b2n, c_b1, c_d2, c_d2n, c_dsh, c_i2l, c_l2i, c_lcm, c_dup, c_dup2, c_pop, c_j1, c_j2, c_jn, c_sw0, c_sw, c_gI, c_gL, c_gR, c_gS, c_pI, c_pZ, c_pL, c_pR, c_iald, c_ialg, c_iast, c_iasg, c_bald, c_bast, c_lald, c_last, c_aald, c_aals, c_aast, c_alen, c_bnd, c_str, c_bndl, c_bnln, c_sval, c_scod, c_sbal, c_sbln, c_fmt, c_stop, c_iret, c_zret, c_nret, c_aret, c_vret, c_lret, c_cpy, c_callV, c_callS, tkA, lget, lput, lkill, jpush, vsz, jcat, lins, lent, List.length_cons, List.length_nil, List.replicate, List.append_nil, List.cons_append, List.nil_append, reduceIte, Nat.reduceAdd, Nat.reduceSub, Nat.reduceEqDiff, true_and, and_true, Nat.reduceLeDiff, Nat.lt_irrefl, Nat.succ_ne_self, forall_const, ne_eq, not_true_eq_false, not_false_eq_true, false_implies, implies_true, true_implies, true_or, or_true, or_false, false_or, eq_self, Int.reduceEq, Int.reduceLT, Int.reduceLE, Int.reduceNeg, Int.reduceToNat, Int.reduceAdd, Int.reduceSub, Int.reduceMul, Int.reduceNe, and_self]
      refine ⟨fun z => absurd z (by omega), fun _ => ?_⟩
      refine ok_MO_usual (li := 0) (g := i) (by decide) (show i < 2 by omega) ?_
      simp only [c_ic, c_lc, c_nul, c_il, c_ll, c_al, c_is, c_ls, c_as, c_inc, c_b2, c_b2n, c_b1, c_d2, c_d2n, c_dsh, c_i2l, c_l2i, c_lcm, c_dup, c_dup2, c_pop, c_j1, c_j2, c_jn, c_sw0, c_sw, c_gI, c_gL, c_gR, c_gS, c_pI, c_pZ, c_pL, c_pR, c_iald, c_ialg, c_iast, c_iasg, c_bald, c_bast, c_lald, c_last, c_aald, c_aals, c_aast, c_alen, c_bnd, c_str, c_bndl, c_bnln, c_sval, c_scod, c_sbal, c_sbln, c_fmt, c_stop, c_iret, c_zret, c_nret, c_aret, c_vret, c_lret, c_cpy, c_callV, c_callS, tkA, lget, lput, lkill, jpush, vsz, jcat, lins, lent, List.length_cons, List.length_nil, List.replicate, List.append_nil, List.cons_append, List.nil_append, reduceIte, Nat.reduceAdd, Nat.reduceSub, Nat.reduceEqDiff, true_and, and_true, Nat.reduceLeDiff, Nat.lt_irrefl, Nat.succ_ne_self, forall_const, ne_eq, not_true_eq_false, not_false_eq_true, false_implies, implies_true, true_implies, true_or, or_true, or_false, false_or, eq_self, Int.reduceEq, Int.reduceLT, Int.reduceLE, Int.reduceNeg, Int.reduceToNat, Int.reduceAdd, Int.reduceSub, Int.reduceMul, Int.reduceNe, and_self, Int.toNat_natCast, ms_si (show 64 ≠ 10 by decide), inc_nat (show i ≤ 100000 by omega), l64]
      refine ⟨by decide, ⟨by omega, by omega⟩, ?_⟩
      refine ih (i + 1) _ dp (by omega) (hF.sI (Or.inr (Or.inr rfl))) (wb HB (Fr.rf.sI (Or.inr rfl))) h0 (fun o ho => ?_)
      simp only [g_sI, true_and]
      by_cases y : o = i
      · rw [if_pos y, y]
      · rw [if_neg y]; exact hv o (by omega)
  simp only [w_MO_readRealm_0, c_ic, c_lc, c_nul, c_il, c_ll, c_al, c_is, c_ls, c_as, c_inc, c_b2, c_b2n, c_b1, c_d2, c_d2n, c_dsh, c_i2l, c_l2i, c_lcm, c_dup, c_dup2, c_pop, c_j1, c_j2, c_jn, c_sw0, c_sw, c_gI, c_gL, c_gR, c_gS, c_pI, c_pZ, c_pL, c_pR, c_iald, c_ialg, c_iast, c_iasg, c_bald, c_bast, c_lald, c_last, c_aald, c_aals, c_aast, c_alen, c_bnd, c_str, c_bndl, c_bnln, c_sval, c_scod, c_sbal, c_sbln, c_fmt, c_stop, c_iret, c_zret, c_nret, c_aret, c_vret, c_lret, c_cpy, c_callV, c_callS, tkA, lget, lput, lkill, jpush, vsz, jcat, lins, lent, List.length_cons, List.length_nil, List.replicate, List.append_nil, List.cons_append, List.nil_append, reduceIte, Nat.reduceAdd, Nat.reduceSub, Nat.reduceEqDiff, true_and, and_true, Nat.reduceLeDiff, Nat.lt_irrefl, Nat.succ_ne_self, forall_const, ne_eq, not_true_eq_false, not_false_eq_true, false_implies, implies_true, true_implies, true_or, or_true, or_false, false_or, eq_self, Int.reduceEq, Int.reduceLT, Int.reduceLE, Int.reduceNeg, Int.reduceToNat, Int.reduceAdd, Int.reduceSub, Int.reduceMul, Int.reduceNe, and_self, hn]
  refine ok_MO_starts (b0 := 0) ?_
  rw [ms_intro]
  simp only [c_ic, c_lc, c_nul, c_il, c_ll, c_al, c_is, c_ls, c_as, c_inc, c_b2, c_b2n, c_b1, c_d2, c_d2n, c_dsh, c_i2l, c_l2i, c_lcm, c_dup, c_dup2, c_pop, c_j1, c_j2, c_jn, c_sw0, c_sw, c_gI, c_gL, c_gR, c_gS, c_pI, c_pZ, c_pL, c_pR, c_iald, c_ialg, c_iast, c_iasg, c_bald, c_bast, c_lald, c_last, c_aald, c_aals, c_aast, c_alen, c_bnd, c_str, c_bndl, c_bnln, c_sval, c_scod, c_sbal, c_sbln, c_fmt, c_stop, c_iret, c_zret, c_nret, c_aret, c_vret, c_lret, c_cpy, c_callV, c_callS, tkA, lget, lput, lkill, jpush, vsz, jcat, lins, lent, List.length_cons, List.length_nil, List.replicate, List.append_nil, List.cons_append, List.nil_append, reduceIte, Nat.reduceAdd, Nat.reduceSub, Nat.reduceEqDiff, true_and, and_true, Nat.reduceLeDiff, Nat.lt_irrefl, Nat.succ_ne_self, forall_const, ne_eq, not_true_eq_false, not_false_eq_true, false_implies, implies_true, true_implies, true_or, or_true, or_false, false_or, eq_self, Int.reduceEq, Int.reduceLT, Int.reduceLE, Int.reduceNeg, Int.reduceToNat, Int.reduceAdd, Int.reduceSub, Int.reduceMul, Int.reduceNe, and_self, ms_so (show 10 ≠ 10 ∨ (28 ≠ 10 ∧ 28 ≠ 11 ∧ 28 ≠ 12) by decide), ms_so (show 10 ≠ 10 ∨ (29 ≠ 10 ∧ 29 ≠ 11 ∧ 29 ≠ 12) by decide), ms_so (show 10 ≠ 10 ∨ (31 ≠ 10 ∧ 31 ≠ 11 ∧ 31 ≠ 12) by decide)]
  refine key0 2 0 _ _ rfl ?_ ?_ ⟨rfl, rfl, rfl⟩ (fun o ho => absurd ho (Nat.not_lt_zero o))
  · exact (((((Fr.rf.sR (k := 10) (j := 0) (o := 5) (Or.inl ⟨rfl, rfl, Or.inl rfl⟩)).sI (Or.inl ⟨rfl, rfl, Or.inr (Or.inl ⟨by decide, by decide⟩)⟩)).sI (Or.inl ⟨rfl, rfl, Or.inr (Or.inl ⟨by decide, by decide⟩)⟩)).sI (Or.inr (Or.inl ⟨rfl, rfl, by decide⟩))).sI (Or.inr (Or.inl ⟨rfl, rfl, by decide⟩))).sI (Or.inr (Or.inl ⟨rfl, rfl, by decide⟩))
  · exact ⟨H.1, rfl, rfl, H.2.1, H.2.2.1, rfl, fun i hi => H.2.2.2.1 i hi, hT⟩
end MRC
